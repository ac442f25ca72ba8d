/-! the reference's lays -/
theorem zsum_ch {f g : Int → Int} : ∀ (n a : Nat), a < n → (∀ i : Nat, i < n → i ≠ a → f i = g i) → zsum f n = zsum g n + (f a - g a)
  | 0, a, h, _ => by omega
  | n + 1, a, h, e => by
    unfold zsum
    by_cases q : a = n
    · subst q
      rw [zsum_congr (f := f) (g := g) a (fun i hi => e i (by omega) (by omega))]
      omega
    · rw [zsum_ch n a (by omega) (fun i hi hn => e i (by omega) hn), e n (by omega) (by omega)]
      omega
/-- all but what lays writes -/
def zL7 (M M' : zM) : Prop := ∀ a i : Int, ¬ (142 ≤ a ∧ a ≤ 148) → ¬ (a = 123 ∧ i = 31) → M' a i = M a i
theorem zL7_r {M : zM} : zL7 M M := fun _ _ _ _ => rfl
theorem zL7_t {M M' M'' : zM} (h : zL7 M M') (g : zL7 M' M'') : zL7 M M'' := fun a i p q => (g a i p q).trans (h a i p q)
theorem zL7_s {M M' : zM} {a i x : Int} (h : zL7 M M') (ha : 142 ≤ a ∧ a ≤ 148 ∨ (a = 123 ∧ i = 31)) : zL7 M (zset M' a i x) := fun b j p q => by
  unfold zset
  rw [if_neg (fun z => by omega)]
  exact h b j p q
/-- a net as it must be -/
def zWN (M : zM) : Prop :=
  (0 ≤ M 123 3 ∧ M 123 3 ≤ 24)
  ∧ (∀ v, 0 ≤ v → v < 16 → (0 ≤ M 126 v ∧ M 126 v ≤ 2) ∧ (0 ≤ M 127 v ∧ M 127 v ≤ 99))
  ∧ (∀ l, 0 ≤ l → l < M 123 3 → ((0 ≤ M 128 l ∧ M 128 l < 16) ∧ (0 ≤ M 129 l ∧ M 129 l < 16) ∧ ¬ M 128 l = M 129 l) ∧ (1 ≤ M 130 l ∧ M 130 l ≤ 99) ∧ (0 ≤ M 131 l ∧ M 131 l ≤ 999) ∧ (0 ≤ M 132 l ∧ M 132 l ≤ 2))
theorem zWN_L7 {M M' : zM} (h : zWN M) (g : zL7 M M') : zWN M' := by
  obtain ⟨a, b, c⟩ := h
  have e3 : M' 123 3 = M 123 3 := g 123 3 (by omega) (by omega)
  have er : ∀ r, 126 ≤ r → r ≤ 132 → ∀ i, M' r i = M r i := fun r h1 h2 i => g r i (by omega) (by omega)
  refine ⟨by rw [e3]; exact a, fun v h0 h1 => ?_, fun l h0 h1 => ?_⟩
  · rw [er 126 (by omega) (by omega), er 127 (by omega) (by omega)]; exact b v h0 h1
  · rw [er 128 (by omega) (by omega), er 129 (by omega) (by omega), er 130 (by omega) (by omega), er 131 (by omega) (by omega), er 132 (by omega) (by omega)]
    exact c l h0 (by omega)
/-- the place nearer to the feeder, of each line by which a place hangs -/
def zNB (ki fi se by' ro ne : Int → Int) (on : Int) : Prop :=
  (∀ i, 0 ≤ i → i < on → ¬ ki (ro i) = 1 → zbt fi se (by' (ro i)) (ne (by' (ro i))) (ro i) ∧ ∃ j, 0 ≤ j ∧ j < i ∧ ne (by' (ro i)) = ro j)
  ∧ ∀ l, 0 ≤ l → l < 24 → ¬ ne l = -1 → ∃ i, 0 ≤ i ∧ i < on ∧ ¬ ki (ro i) = 1 ∧ by' (ro i) = l
theorem zNB_add {ki is fi se : Int → Int} {m : Int} {fe by' de ro ne : Int → Int} {on k p w : Int} (h : zLB ki is fi se m fe by' de ro on k p) (hN : zNB ki fi se by' ro ne on) (hk : k < on) (hw : 0 ≤ w ∧ w < 16) (hb : zbt fi se p (ro k) w) (hu : fe w = -1) : zNB ki fi se (fset by' w p) (fset ro on w) (fset ne p (ro k)) (on + 1) := by
  obtain ⟨⟨a1, a2, a3⟩, b, c, d, e, f, g, j⟩ := h
  have hwr : ∀ i, 0 ≤ i → i < on → ro i ≠ w := fun i h0 h1 q => (b i h0 h1).2.1 (by rw [q]; exact hu)
  have hkw : ¬ ki w = 1 := fun q => by have := (e w hw.1 hw.2 q).1; omega
  have hnp : ∀ i, 0 ≤ i → i < on → ¬ ki (ro i) = 1 → by' (ro i) ≠ p := by
    intro i h0 h1 q z
    obtain ⟨n1, j2, n2, n3, n4⟩ := hN.1 i h0 h1 q
    rw [z] at n1 n4
    have hi := hwr i h0 h1
    have hj := hwr j2 n2 (by omega)
    have hkk := hwr k a1 hk
    unfold zbt at n1 hb
    rcases n1 with ⟨x1, x2⟩ | ⟨x1, x2⟩ <;> rcases hb with ⟨y1, y2⟩ | ⟨y1, y2⟩ <;> omega
  refine ⟨fun i h0 h1 q => ?_, fun l h0 h1 q => ?_⟩
  · by_cases z : i = on
    · rw [z, fset_s, fset_s, fset_s]
      exact ⟨hb, k, a1, hk, (fset_o _ (by omega)).symm⟩
    · have hi : i < on := by omega
      rw [fset_o _ z] at q ⊢
      rw [fset_o _ (hwr i h0 hi), fset_o _ (hnp i h0 hi q)]
      obtain ⟨n1, j2, n2, n3, n4⟩ := hN.1 i h0 hi q
      exact ⟨n1, j2, n2, n3, by rw [fset_o _ (by omega)]; exact n4⟩
  · by_cases z : l = p
    · exact ⟨on, by omega, by omega, by rw [fset_s]; exact hkw, by rw [fset_s, fset_s]; exact z.symm⟩
    · rw [fset_o _ z] at q
      obtain ⟨i, h2, h3, h4, h5⟩ := hN.2 l h0 h1 q
      exact ⟨i, h2, by omega, by rw [fset_o _ (by omega)]; exact h4, by rw [fset_o _ (by omega : i ≠ on), fset_o _ (hwr i h2 h3)]; exact h5⟩
/-- what hangs below, line by line -/
def zFS (ki lo is fi se : Int → Int) (m : Int) (fe by' be fl ne : Int → Int) : Prop :=
  (∀ v, 0 ≤ v → v < 16 → ¬ fe v = -1 → be v = (if ki v = 2 then lo v else 0) + zsum (fun l => if ne l = v then fl l else 0) 24)
  ∧ (∀ v, 0 ≤ v → v < 16 → ¬ fe v = -1 → ¬ ki v = 1 → fl (by' v) = be v ∧ zbt fi se (by' v) (ne (by' v)) v ∧ (0 ≤ ne (by' v) ∧ ne (by' v) < 16))
  ∧ (∀ l, 0 ≤ l → l < 24 → (ne l = -1 → fl l = 0) ∧ (¬ ne l = -1 → ∃ v, (0 ≤ v ∧ v < 16) ∧ ¬ fe v = -1 ∧ ¬ ki v = 1 ∧ by' v = l))
  ∧ (∀ v, 0 ≤ v → v < 16 → fe v = -1 → be v = 0)
  ∧ (∀ v, 0 ≤ v → v < 16 → 0 ≤ be v ∧ be v ≤ 1584) ∧ (∀ l, 0 ≤ l → l < 24 → 0 ≤ fl l ∧ fl l ≤ 1584)
def zLS (M : zM) : Prop := zTS (M 126) (M 132) (M 128) (M 129) (M 123 3) (M 142) (M 143) (M 144) ∧ zFS (M 126) (M 127) (M 132) (M 128) (M 129) (M 123 3) (M 142) (M 143) (M 145) (M 147) (M 148)
/-- the way back, from the far ends: those behind i are done -/
def zBK (ki lo fi se fe by' ro be fl ne : Int → Int) (on i : Int) : Prop :=
  (∀ j, 0 ≤ j → j ≤ i → be (ro j) = zsum (fun l => if ne l = ro j then fl l else 0) 24 ∧ (¬ ki (ro j) = 1 → fl (by' (ro j)) = 0))
  ∧ (∀ j, i < j → 0 ≤ j → j < on → be (ro j) = (if ki (ro j) = 2 then lo (ro j) else 0) + zsum (fun l => if ne l = ro j then fl l else 0) 24 ∧ (¬ ki (ro j) = 1 → fl (by' (ro j)) = be (ro j)))
  ∧ (∀ l, 0 ≤ l → l < 24 → ne l = -1 → fl l = 0)
  ∧ (∀ v, 0 ≤ v → v < 16 → fe v = -1 → be v = 0)
  ∧ (∀ v, 0 ≤ v → v < 16 → 0 ≤ be v ∧ be v ≤ 1584) ∧ (∀ l, 0 ≤ l → l < 24 → 0 ≤ fl l ∧ fl l ≤ 1584)
  ∧ zsum (fun j => be (ro j)) (i + 1).toNat ≤ 99 * (on - 1 - i)
theorem zsum_ge {f : Int → Int} : ∀ (n a : Nat), a < n → (∀ i : Nat, i < n → 0 ≤ f i) → f a ≤ zsum f n
  | 0, a, h, _ => by omega
  | n + 1, a, h, e => by
    unfold zsum
    have h0 := e n (by omega)
    by_cases q : a = n
    · subst q
      have : ∀ m : Nat, m ≤ a → 0 ≤ zsum f m := by
        intro m
        induction m with
        | zero => intro _; exact Int.le_refl 0
        | succ m ih => intro hm; unfold zsum; have := ih (by omega); have := e m (by omega); omega
      have := this a (by omega)
      omega
    · have := zsum_ge n a (by omega) (fun i hi => e i (by omega))
      omega
theorem fset_id (f : Int → Int) (i : Int) : fset f i (f i) = f := by
  funext j
  unfold fset
  split
  · rename_i q; rw [q]
  · rfl
theorem zBK_f {ki lo fi se fe by' ro be fl ne : Int → Int} {on i : Int} (h : zBK ki lo fi se fe by' ro be fl ne on i) (hi : 0 ≤ i ∧ i < on) (hr : ∀ j, 0 ≤ j → j < on → 0 ≤ ro j ∧ ro j < 16) (hk : ki (ro i) = 1) : zBK ki lo fi se fe by' ro be fl ne on (i - 1) := by
  obtain ⟨k1, k2, k3, k4, k5, k6, k7⟩ := h
  obtain ⟨n, rfl⟩ : ∃ n : Nat, i = n := ⟨i.toNat, by omega⟩
  refine ⟨fun j h0 h1 => k1 j h0 (by omega), fun j h0 h1 h2 => ?_, k3, k4, k5, k6, ?_⟩
  · by_cases q : j = n
    · subst q
      have := k1 n (by omega) (by omega)
      refine ⟨?_, fun z => absurd hk z⟩
      rw [if_neg (by omega), this.1]
      omega
    · exact k2 j (by omega) h1 h2
  · rw [show (((n : Nat) : Int) - 1 + 1).toNat = n by omega]
    rw [show (((n : Nat) : Int) + 1).toNat = n + 1 by omega] at k7
    unfold zsum at k7
    have := hr n (by omega) (by omega)
    have := k5 (ro n) this.1 this.2
    omega
theorem zBK_n {ki lo fi se fe by' ro be fl ne : Int → Int} {on i u y : Int} (h : zBK ki lo fi se fe by' ro be fl ne on i) (hi : 0 ≤ i ∧ i < on) (hon : on ≤ 16) (hr : ∀ j, 0 ≤ j → j < on → (0 ≤ ro j ∧ ro j < 16) ∧ ¬ fe (ro j) = -1) (hinj : ∀ j j', 0 ≤ j → j < on → 0 ≤ j' → j' < on → ro j = ro j' → j = j') (hby : ∀ j, 0 ≤ j → j < on → ¬ ki (ro j) = 1 → 0 ≤ by' (ro j) ∧ by' (ro j) < 24) (hN : zNB ki fi se by' ro ne on) (hlo : 0 ≤ lo (ro i) ∧ lo (ro i) ≤ 99) (hk : ¬ ki (ro i) = 1) (hu : ne (by' (ro i)) = u) (hy : y = be (ro i) + (if ki (ro i) = 2 then lo (ro i) else 0)) : (0 ≤ y ∧ y ≤ 1584) ∧ (0 ≤ be u + y ∧ be u + y ≤ 1584) ∧ u ≠ ro i ∧ zBK ki lo fi se fe by' ro (fset (fset be (ro i) y) u (be u + y)) (fset fl (by' (ro i)) y) ne on (i - 1) := by
  obtain ⟨k1, k2, k3, k4, k5, k6, k7⟩ := h
  obtain ⟨n, rfl⟩ : ∃ n : Nat, i = n := ⟨i.toNat, by omega⟩
  obtain ⟨n1, j0, n2, n3, n4⟩ := hN.1 n hi.1 hi.2 hk
  rw [hu] at n1 n4
  obtain ⟨m0, rfl⟩ : ∃ m0 : Nat, j0 = m0 := ⟨j0.toNat, by omega⟩
  have hv := hr n hi.1 hi.2
  have hj0 := hr m0 n2 (by omega)
  have huv : u ≠ ro n := fun q => by
    have := hinj m0 n n2 (by omega) hi.1 hi.2 (by omega)
    omega
  have hbn := hby n hi.1 hi.2 hk
  have own : 0 ≤ (if ki (ro n) = 2 then lo (ro n) else 0) ∧ (if ki (ro n) = 2 then lo (ro n) else 0) ≤ 99 := by split <;> omega
  obtain ⟨w, hw⟩ : ∃ w, w = (if ki (ro n) = 2 then lo (ro n) else 0) := ⟨_, rfl⟩
  rw [← hw] at own hy
  have hnn : ∀ t : Nat, t < n + 1 → 0 ≤ be (ro t) := fun t ht => by
    have := hr t (by omega) (by omega)
    exact (k5 (ro t) this.1.1 this.1.2).1
  rw [show (((n : Nat) : Int) + 1).toNat = n + 1 by omega] at k7
  have hs : zsum (fun j => be (ro j)) (n + 1) = zsum (fun j => be (ro j)) n + be (ro n) := rfl
  have hge := zsum_ge (f := fun j => be (ro j)) n m0 (by omega) (fun t ht => hnn t (by omega))
  have hge0 : 0 ≤ zsum (fun j => be (ro j)) n := by have := hnn m0 (by omega); omega
  have hbu : 0 ≤ be u := by rw [n4]; exact hnn m0 (by omega)
  have hbv := hnn n (by omega)
  have hbu2 : be u ≤ zsum (fun j => be (ro j)) n := by rw [n4]; exact hge
  have y1 : 0 ≤ y ∧ y ≤ 1584 := by omega
  have y2 : 0 ≤ be u + y ∧ be u + y ≤ 1584 := by omega
  have hbyj : ∀ j, 0 ≤ j → j < on → ¬ ki (ro j) = 1 → j ≠ n → by' (ro j) ≠ by' (ro n) := by
    intro j h0 h1 q1 q2 z
    obtain ⟨x1, j3, x2, x3, x4⟩ := hN.1 j h0 h1 q1
    rw [z, hu] at x1
    have : ro j = ro n := by
      unfold zbt at x1 n1
      rcases x1 with ⟨p1, p2⟩ | ⟨p1, p2⟩ <;> rcases n1 with ⟨r1, r2⟩ | ⟨r1, r2⟩ <;> omega
    exact q2 (hinj j n h0 h1 hi.1 hi.2 this)
  have f0 : fl (by' (ro n)) = 0 := (k1 n hi.1 (by omega)).2 hk
  obtain ⟨b0, hb0⟩ : ∃ b0 : Nat, by' (ro n) = b0 := ⟨(by' (ro n)).toNat, by omega⟩
  have hsum : ∀ x, zsum (fun l => if ne l = x then fset fl (by' (ro n)) y l else 0) 24 = zsum (fun l => if ne l = x then fl l else 0) 24 + (if x = u then y else 0) := by
    intro x
    rw [zsum_ch (f := fun l => if ne l = x then fset fl (by' (ro n)) y l else 0) (g := fun l => if ne l = x then fl l else 0) 24 b0 (by omega) (fun t ht hn => by
      rw [fset_o _ (by omega)])]
    rw [← hb0, fset_s, f0, hu]
    by_cases q : x = u
    · rw [if_pos q, if_pos q.symm, if_pos q.symm]; omega
    · rw [if_neg q, if_neg (Ne.symm q), if_neg (Ne.symm q)]; omega
  have bO : ∀ x, x ≠ u → x ≠ ro n → fset (fset be (ro n) y) u (be u + y) x = be x := fun x p q => by rw [fset_o _ p, fset_o _ q]
  have bV : fset (fset be (ro n) y) u (be u + y) (ro n) = y := by rw [fset_o _ (Ne.symm huv), fset_s]
  have bU : fset (fset be (ro n) y) u (be u + y) u = be u + y := fset_s _ _ _
  refine ⟨y1, y2, huv, ?_, ?_, ?_, ?_, ?_, ?_, ?_⟩
  · intro j h0 h1
    have hjn : ro j ≠ ro n := fun q => by have := hinj j n h0 (by omega) hi.1 hi.2 q; omega
    refine ⟨?_, fun q => ?_⟩
    · rw [hsum]
      by_cases q : ro j = u
      · rw [q, bU, if_pos rfl, ← q, (k1 j h0 (by omega)).1]
      · rw [bO _ q hjn, if_neg q, (k1 j h0 (by omega)).1]; omega
    · rw [fset_o _ (hbyj j h0 (by omega) q (by omega))]
      exact (k1 j h0 (by omega)).2 q
  · intro j h0 h1 h2
    by_cases q : j = n
    · subst q
      refine ⟨?_, fun _ => ?_⟩
      · rw [bV, hsum, if_neg (Ne.symm huv), hy, (k1 n hi.1 (by omega)).1, hw]; omega
      · rw [bV, fset_s]
    · have hju : ro j ≠ u := fun z => by
        have := hinj j m0 h1 h2 n2 (by omega) (by omega)
        omega
      have hjn : ro j ≠ ro n := fun z => q (hinj j n h1 h2 hi.1 hi.2 z)
      have := k2 j (by omega) h1 h2
      refine ⟨?_, fun z => ?_⟩
      · rw [bO _ hju hjn, hsum, if_neg hju, this.1]; omega
      · rw [bO _ hju hjn, fset_o _ (hbyj j h1 h2 z q)]; exact this.2 z
  · intro l h0 h1 q
    have : l ≠ by' (ro n) := fun z => by rw [z, hu] at q; omega
    rw [fset_o _ this]
    exact k3 l h0 h1 q
  · intro x h0 h1 q
    have q1 : x ≠ ro n := fun z => hv.2 (by rw [← z]; exact q)
    have q2 : x ≠ u := fun z => hj0.2 (by rw [← n4, ← z]; exact q)
    rw [bO x q2 q1]
    exact k4 x h0 h1 q
  · intro x h0 h1
    by_cases q1 : x = u
    · rw [q1, bU]; exact y2
    · by_cases q2 : x = ro n
      · rw [q2, bV]; exact y1
      · rw [bO x q1 q2]; exact k5 x h0 h1
  · intro l h0 h1
    by_cases q : l = by' (ro n)
    · rw [q, fset_s]; exact y1
    · rw [fset_o _ q]; exact k6 l h0 h1
  · rw [show (((n : Nat) : Int) - 1 + 1).toNat = n by omega]
    rw [zsum_ch (f := fun j => fset (fset be (ro n) y) u (be u + y) (ro j)) (g := fun j => be (ro j)) n m0 (by omega) (fun t ht hn => by
      have z1 : ro t ≠ u := fun z => by
        have := hinj t m0 (by omega) (by omega) n2 (by omega) (by omega)
        omega
      have z2 : ro t ≠ ro n := fun z => by
        have := hinj t n (by omega) (by omega) hi.1 hi.2 z
        omega
      exact bO _ z1 z2)]
    rw [← n4, bU]
    omega
section LY
variable {Q : Int → zM → Prop} {M0 : zM}
/-- the last loop -/
theorem c118_d (hQ : ∀ M', zL7 M0 M' → zLS M' → Q 0 M') (hW : zWN M0) : ∀ (n : Nat) (M : zM) (i : Int), i + 1 = n → zL7 M0 M → zLB (M 126) (M 132) (M 128) (M 129) (M 123 3) (M 142) (M 143) (M 144) (M 146) (M 123 31) (M 123 31) 0 → zNB (M 126) (M 128) (M 129) (M 143) (M 146) (M 148) (M 123 31) → i < M 123 31 → zBK (M 126) (M 127) (M 128) (M 129) (M 142) (M 143) (M 146) (M 145) (M 147) (M 148) (M 123 31) i → zS 118 Q 280 [(2, 123), (0, i), (3, 0), (3, 0), (3, 0)] [] M := by
  intro n
  induction n with
  | zero =>
    intro M i hi hL hB hN hio hK
    refine s118_280 ⟨fun _ => hQ M hL ⟨zLB_TS hB, ?_⟩, fun q => absurd hi (by omega)⟩
    obtain ⟨k1, k2, k3, k4, k5, k6, k7⟩ := hK
    obtain ⟨a, b, c, d, e, f, g, j⟩ := hB
    refine ⟨fun v h0 h1 q => ?_, fun v h0 h1 q q2 => ?_, fun l h0 h1 => ⟨k3 l h0 h1, fun q => ?_⟩, k4, k5, k6⟩
    · obtain ⟨d1, t, d2, d3, d4⟩ := d v h0 h1 q
      have := (k2 t (by omega) d2 d3).1
      rw [d4] at this
      exact this
    · obtain ⟨d1, t, d2, d3, d4⟩ := d v h0 h1 q
      have h2 := (k2 t (by omega) d2 d3).2
      have h3 := hN.1 t d2 d3
      rw [d4] at h2 h3
      obtain ⟨n1, j2, n2, n3, n4⟩ := h3 q2
      have hb := (b j2 n2 (by omega)).1
      exact ⟨h2 q2, n1, by rw [n4]; exact hb⟩
    · obtain ⟨t, h2, h3, h4, h5⟩ := hN.2 l h0 h1 q
      have hb := b t h2 h3
      exact ⟨M 146 t, hb.1, hb.2.1, h4, h5⟩
  | succ n ih =>
    intro M i hi hL hB hN hio hK
    have hW' := zWN_L7 hW hL
    obtain ⟨a, b, c, d, e, f, g, j⟩ := id hB
    have hi0 : 0 ≤ i ∧ i < M 123 31 := by omega
    have hv := b i hi0.1 hi0.2
    have hlo := (hW'.2.1 (M 146 i) hv.1.1 hv.1.2)
    obtain ⟨k1, k2, k3, k4, k5, k6, k7⟩ := id hK
    have hbe := k5 (M 146 i) hv.1.1 hv.1.2
    have hby : ∀ j, 0 ≤ j → j < M 123 31 → ¬ M 126 (M 146 j) = 1 → 0 ≤ M 143 (M 146 j) ∧ M 143 (M 146 j) < 24 := fun j h0 h1 q => by
      have := (g j h0 h1 q).1
      have := hW'.1
      omega
    have nf : ∀ y, ¬ M 126 (M 146 i) = 1 → y = M 145 (M 146 i) + (if M 126 (M 146 i) = 2 then M 127 (M 146 i) else 0) → (0 ≤ M 143 (M 146 i) ∧ M 143 (M 146 i) < 24) ∧ (0 ≤ M 148 (M 143 (M 146 i)) ∧ M 148 (M 143 (M 146 i)) < 16) ∧ zS 118 Q 280 [(2, 123), (0, zw (i + (-1))), (3, 0), (3, 0), (3, 0)] [] (zset (zset (zset M 145 (M 146 i) (zw y)) 147 (M 143 (M 146 i)) (zw y)) 145 (M 148 (M 143 (M 146 i))) (zw (((zset M 145 (M 146 i) (zw y)) 145 (M 148 (M 143 (M 146 i)))) + (zw y)))) := by
      intro y hk hy
      obtain ⟨n1, j0, n2, n3, n4⟩ := hN.1 i hi0.1 hi0.2 hk
      have hu := (b j0 n2 (by omega)).1
      obtain ⟨y1, y2, y3, y4⟩ := zBK_n hK hi0 a.2.2 (fun j h0 h1 => ⟨(b j h0 h1).1, (b j h0 h1).2.1⟩) c hby hN hlo.2 hk rfl hy
      refine ⟨hby i hi0.1 hi0.2 hk, by rw [n4]; exact hu, ?_⟩
      rw [zw_id (x := y) (by omega), zw_id (x := i + -1) (by omega), zrow_s, fset_o _ y3, zw_id (by omega)]
      have r : ∀ x : Int, x ≠ 145 → x ≠ 147 → zset (zset (zset M 145 (M 146 i) y) 147 (M 143 (M 146 i)) y) 145 (M 148 (M 143 (M 146 i))) (M 145 (M 148 (M 143 (M 146 i))) + y) x = M x := fun x h1 h2 => by rw [zrow_o _ h1, zrow_o _ h2, zrow_o _ h1]
      have r5 : zset (zset (zset M 145 (M 146 i) y) 147 (M 143 (M 146 i)) y) 145 (M 148 (M 143 (M 146 i))) (M 145 (M 148 (M 143 (M 146 i))) + y) 145 = fset (fset (M 145) (M 146 i) y) (M 148 (M 143 (M 146 i))) (M 145 (M 148 (M 143 (M 146 i))) + y) := by rw [zrow_s, zrow_o _ (by decide), zrow_s]
      have r7 : zset (zset (zset M 145 (M 146 i) y) 147 (M 143 (M 146 i)) y) 145 (M 148 (M 143 (M 146 i))) (M 145 (M 148 (M 143 (M 146 i))) + y) 147 = fset (M 147) (M 143 (M 146 i)) y := by rw [zrow_o _ (by decide), zrow_s, zrow_o _ (by decide)]
      refine ih _ (i + -1) (by omega) (zL7_s (zL7_s (zL7_s hL (by omega)) (by omega)) (by omega)) ?_ ?_ ?_ ?_
      · rw [r 126 (by decide) (by decide), r 132 (by decide) (by decide), r 128 (by decide) (by decide), r 129 (by decide) (by decide), r 123 (by decide) (by decide), r 142 (by decide) (by decide), r 143 (by decide) (by decide), r 144 (by decide) (by decide), r 146 (by decide) (by decide)]
        exact hB
      · rw [r 126 (by decide) (by decide), r 128 (by decide) (by decide), r 129 (by decide) (by decide), r 123 (by decide) (by decide), r 143 (by decide) (by decide), r 146 (by decide) (by decide), r 148 (by decide) (by decide)]
        exact hN
      · rw [r 123 (by decide) (by decide)]; omega
      · rw [r 126 (by decide) (by decide), r 127 (by decide) (by decide), r 128 (by decide) (by decide), r 129 (by decide) (by decide), r 123 (by decide) (by decide), r 142 (by decide) (by decide), r 143 (by decide) (by decide), r 146 (by decide) (by decide), r 148 (by decide) (by decide), r5, r7]
        exact y4
    refine s118_280 ⟨fun q => absurd q (by omega), fun _ => ⟨⟨by omega, by omega⟩, hv.1, fun q2 => ⟨fun q3 => ?_, fun q3 => ?_⟩, fun q2 => ⟨fun q3 => ?_, fun q3 => ?_⟩⟩⟩
    · have hk1 : M 126 (M 146 i) = 1 := Decidable.byContradiction fun z => by
        have := (g i hi0.1 hi0.2 z).1
        omega
      have e1 : zset M 145 (M 146 i) (zw (M 145 (M 146 i) + 0)) = M := by
        rw [zw_id (by omega), Int.add_zero]
        funext x t
        unfold zset
        split
        · rename_i z; rw [z.1, z.2]
        · rfl
      rw [e1, zw_id (x := i + -1) (by omega)]
      exact ih M (i + -1) (by omega) hL hB hN (by omega) (zBK_f hK hi0 (fun j h0 h1 => (b j h0 h1).1) hk1)
    · have hk1 : ¬ M 126 (M 146 i) = 1 := fun z => q3 (e _ hv.1.1 hv.1.2 z).2.1
      exact nf _ hk1 (by rw [if_neg q2])
    · exfalso
      have := (g i hi0.1 hi0.2 (by omega)).1
      omega
    · exact nf _ (by omega) (by rw [if_pos q2])
end LY
