/-! the class: fill, carry, weigh -/
section FL2
variable {Q : Int → zM → Prop} {M : zM} {f : Int}
/-- a row is filled -/
theorem c165 {t x : Int} {l : Nat} (kt : zKT t = (0, l)) (hl : l ≤ 1000) (h : ∀ M', (∀ a, a ≠ t → M' a = M a) → (∀ i : Int, 0 ≤ i → i < l → M' t i = x) → Q 0 M') : zF 165 Q [(2, t), (0, x)] M := by
  have key : ∀ (n : Nat) (M' : zM) (v : Int), v + n = l → 0 ≤ v → (∀ a, a ≠ t → M' a = M a) → (∀ i, 0 ≤ i → i < v → M' t i = x) → zS 165 Q 5 [(2, t), (0, x), (0, v), (0, (l : Int))] [] M' := by
    intro n
    induction n with
    | zero =>
      intro M' v hn h0 h1 h2
      refine s165_5 kt ⟨fun _ => h M' h1 (fun i a b => h2 i a (by omega)), fun q => absurd q (by omega)⟩
    | succ n ih =>
      intro M' v hn h0 h1 h2
      refine s165_5 kt ⟨fun q => absurd q (by omega), fun q => ⟨⟨h0, q⟩, ?_⟩⟩
      rw [zw_id (by omega)]
      refine ih _ (v + 1) (by omega) (by omega) (fun a ha => by rw [zrow_o _ ha]; exact h1 a ha) (fun i a b => ?_)
      rw [zrow_s]
      by_cases z : i = v
      · rw [z, fset_s]
      · rw [fset_o _ z]; exact h2 i a (by omega)
  exact s165_0 kt (key l M 0 (by omega) (by omega) (fun _ _ => rfl) (fun i a b => by omega))
/-- the way back: those behind i are done -/
def zCB (lo fi se by' qu be fl ne : Int → Int) (lc i ll : Int) : Prop :=
  (∀ j, 0 ≤ j → j < lc → be (qu j) = lo (qu j) + zsum (fun l => if ne l = qu j then fl l else 0) 24)
  ∧ (∀ j, i < j → 0 ≤ j → j < lc → ¬ by' (qu j) = -1 → fl (by' (qu j)) = be (qu j) ∧ zbt fi se (by' (qu j)) (ne (by' (qu j))) (qu j) ∧ (0 ≤ ne (by' (qu j)) ∧ ne (by' (qu j)) < 16))
  ∧ (∀ l, 0 ≤ l → l < 24 → (ne l = -1 → fl l = 0) ∧ (¬ ne l = -1 → ∃ j, i < j ∧ 0 ≤ j ∧ j < lc ∧ by' (qu j) = l))
  ∧ (∀ v, 0 ≤ v → v < 16 → 0 ≤ be v ∧ be v ≤ 1584) ∧ (∀ l, 0 ≤ l → l < 24 → 0 ≤ fl l ∧ fl l ≤ 1584)
  ∧ zsum (fun j => be (qu j)) (i + 1).toNat ≤ 99 * lc
  ∧ ll + zsum (fun j => lo (qu j)) (i + 1).toNat = zsum (fun j => lo (qu j)) lc.toNat
theorem zCB_root {lo fi se by' qu be fl ne : Int → Int} {lc i ll : Int} (h : zCB lo fi se by' qu be fl ne lc i ll) (hi : 0 ≤ i ∧ i < lc) (hr : ∀ j, 0 ≤ j → j < lc → 0 ≤ qu j ∧ qu j < 16) (hb : by' (qu i) = -1) : zCB lo fi se by' qu be fl ne lc (i - 1) (ll + lo (qu i)) := by
  obtain ⟨k1, k2, k3, k5, k6, k7, k8⟩ := h
  obtain ⟨n, rfl⟩ : ∃ n : Nat, i = n := ⟨i.toNat, by omega⟩
  rw [show (((n : Nat) : Int) + 1).toNat = n + 1 by omega] at k7 k8
  have e7 : zsum (fun j => be (qu j)) (n + 1) = zsum (fun j => be (qu j)) n + be (qu n) := rfl
  have e8 : zsum (fun j => lo (qu j)) (n + 1) = zsum (fun j => lo (qu j)) n + lo (qu n) := rfl
  rw [e7] at k7
  rw [e8] at k8
  refine ⟨k1, fun j h0 h1 h2 q => ?_, fun l h0 h1 => ⟨(k3 l h0 h1).1, fun q => ?_⟩, k5, k6, ?_, ?_⟩
  · by_cases z : j = n
    · subst z; exact absurd hb q
    · exact k2 j (by omega) h1 h2 q
  · obtain ⟨j, a, b, c, d⟩ := (k3 l h0 h1).2 q
    exact ⟨j, by omega, b, c, d⟩
  · rw [show (((n : Nat) : Int) - 1 + 1).toNat = n by omega]
    have := hr n (by omega) (by omega)
    have := k5 (qu n) this.1 this.2
    omega
  · rw [show (((n : Nat) : Int) - 1 + 1).toNat = n by omega]
    omega
theorem zCB_step {lo fi se by' qu be fl ne : Int → Int} {lc i ll u : Int} (h : zCB lo fi se by' qu be fl ne lc i ll) (hi : 0 ≤ i ∧ i < lc) (hlc : lc ≤ 16) (hr : ∀ j, 0 ≤ j → j < lc → 0 ≤ qu j ∧ qu j < 16) (hinj : ∀ j j', 0 ≤ j → j < lc → 0 ≤ j' → j' < lc → qu j = qu j' → j = j') (hby : ∀ j, 0 ≤ j → j < lc → ¬ by' (qu j) = -1 → (0 ≤ by' (qu j) ∧ by' (qu j) < 24) ∧ ∃ j2, 0 ≤ j2 ∧ j2 < j ∧ zbt fi se (by' (qu j)) (qu j2) (qu j)) (hne : ∀ j, 0 ≤ j → j < lc → ¬ by' (qu j) = -1 → ¬ fi (by' (qu j)) = se (by' (qu j))) (hb : ¬ by' (qu i) = -1) (hu : zbt fi se (by' (qu i)) u (qu i)) : (0 ≤ u ∧ u < 16) ∧ (0 ≤ be u + be (qu i) ∧ be u + be (qu i) ≤ 1584) ∧ u ≠ qu i ∧ zCB lo fi se by' qu (fset be u (be u + be (qu i))) (fset fl (by' (qu i)) (be (qu i))) (fset ne (by' (qu i)) u) lc (i - 1) (ll + lo (qu i)) := by
  obtain ⟨k1, k2, k3, k5, k6, k7, k8⟩ := h
  obtain ⟨n, rfl⟩ : ∃ n : Nat, i = n := ⟨i.toNat, by omega⟩
  obtain ⟨hbn, j0, n2, n3, n4⟩ := hby n hi.1 hi.2 hb
  have hu0 : u = qu j0 := zbt_u (hne n hi.1 hi.2 hb) (zbt_s hu) (zbt_s n4)
  obtain ⟨m0, rfl⟩ : ∃ m0 : Nat, j0 = m0 := ⟨j0.toNat, by omega⟩
  have hv := hr n hi.1 hi.2
  have hj0 := hr m0 n2 (by omega)
  have huv : u ≠ qu n := fun q => by
    have := hinj m0 n n2 (by omega) hi.1 hi.2 (by omega)
    omega
  have hnn : ∀ t : Nat, t < n + 1 → 0 ≤ be (qu t) := fun t ht => by
    have := hr t (by omega) (by omega)
    exact (k5 (qu t) this.1 this.2).1
  rw [show (((n : Nat) : Int) + 1).toNat = n + 1 by omega] at k7 k8
  have hs : zsum (fun j => be (qu j)) (n + 1) = zsum (fun j => be (qu j)) n + be (qu n) := rfl
  have hge := zsum_ge (f := fun j => be (qu j)) n m0 (by omega) (fun t ht => hnn t (by omega))
  have hbu2 : be u ≤ zsum (fun j => be (qu j)) n := by rw [hu0]; exact hge
  have hbu : 0 ≤ be u := by rw [hu0]; exact hnn m0 (by omega)
  have hbv := hnn n (by omega)
  have hbv2 := (k5 (qu n) hv.1 hv.2)
  have y2 : 0 ≤ be u + be (qu n) ∧ be u + be (qu n) ≤ 1584 := by omega
  have hbyj : ∀ j, 0 ≤ j → j < lc → ¬ by' (qu j) = -1 → j ≠ n → by' (qu j) ≠ by' (qu n) := by
    intro j h0 h1 q1 q2 z
    obtain ⟨-, j3, x2, x3, x4⟩ := hby j h0 h1 q1
    rw [z] at x4
    have hnn2 := hne n hi.1 hi.2 hb
    by_cases q : qu j3 = qu n
    · have e1 := hinj j3 n x2 (by omega) hi.1 hi.2 q
      rw [q] at x4
      have := zbt_u hnn2 x4 (zbt_s n4)
      have := hinj j m0 h0 h1 n2 (by omega) this
      omega
    · have : qu j = qu n := by
        unfold zbt at x4 n4
        rcases x4 with ⟨p1, p2⟩ | ⟨p1, p2⟩ <;> rcases n4 with ⟨r1, r2⟩ | ⟨r1, r2⟩ <;> omega
      exact q2 (hinj j n h0 h1 hi.1 hi.2 this)
  have hl0 : ne (by' (qu n)) = -1 := Classical.byContradiction fun q => by
    obtain ⟨j, a, b, c, d⟩ := (k3 _ hbn.1 hbn.2).2 q
    exact hbyj j b c (by omega) (by omega) d
  have f0 : fl (by' (qu n)) = 0 := (k3 _ hbn.1 hbn.2).1 hl0
  obtain ⟨b0, hb0⟩ : ∃ b0 : Nat, by' (qu n) = b0 := ⟨(by' (qu n)).toNat, by omega⟩
  have hsum : ∀ x, 0 ≤ x → zsum (fun l => if fset ne (by' (qu n)) u l = x then fset fl (by' (qu n)) (be (qu n)) l else 0) 24 = zsum (fun l => if ne l = x then fl l else 0) 24 + (if x = u then be (qu n) else 0) := by
    intro x hx
    rw [zsum_ch (f := fun l => if fset ne (by' (qu n)) u l = x then fset fl (by' (qu n)) (be (qu n)) l else 0) (g := fun l => if ne l = x then fl l else 0) 24 b0 (by omega) (fun t ht hn => by
      rw [fset_o _ (by omega), fset_o _ (by omega)])]
    rw [← hb0, fset_s, fset_s, hl0, if_neg (show ¬ (-1 : Int) = x by omega)]
    by_cases q : x = u
    · rw [if_pos q, if_pos q.symm]; omega
    · rw [if_neg q, if_neg (Ne.symm q)]; omega
  have bO : ∀ x, x ≠ u → fset be u (be u + be (qu n)) x = be x := fun x p => fset_o _ p
  have bU : fset be u (be u + be (qu n)) u = be u + be (qu n) := fset_s _ _ _
  refine ⟨by omega, y2, huv, ?_, ?_, ?_, ?_, ?_, ?_, ?_⟩
  · intro j h0 h1
    rw [hsum _ (hr j h0 h1).1]
    by_cases q : qu j = u
    · have := k1 j h0 h1
      rw [q] at this
      rw [q, bU, if_pos rfl, this]
      omega
    · rw [bO _ q, if_neg q, k1 j h0 h1]; omega
  · intro j h0 h1 h2 q
    by_cases z : j = n
    · subst z
      rw [fset_s, fset_s, bO _ (Ne.symm huv)]
      exact ⟨rfl, hu, by omega⟩
    · rw [fset_o _ (hbyj j h1 h2 q z), fset_o _ (hbyj j h1 h2 q z)]
      have hju : qu j ≠ u := fun z2 => by
        have := hinj j m0 h1 h2 n2 (by omega) (by omega)
        omega
      rw [bO _ hju]
      exact k2 j (by omega) h1 h2 q
  · intro l h0 h1
    by_cases z : l = by' (qu n)
    · rw [z, fset_s]
      exact ⟨fun q => by omega, fun _ => ⟨n, by omega, hi.1, hi.2, rfl⟩⟩
    · rw [fset_o _ z, fset_o _ z]
      refine ⟨(k3 l h0 h1).1, fun q => ?_⟩
      obtain ⟨j, a, b, c, d⟩ := (k3 l h0 h1).2 q
      exact ⟨j, by omega, b, c, d⟩
  · intro x h0 h1
    by_cases q1 : x = u
    · rw [q1, bU]; exact y2
    · rw [bO x q1]; exact k5 x h0 h1
  · intro l h0 h1
    by_cases q : l = by' (qu n)
    · rw [q, fset_s]; exact hbv2
    · rw [fset_o _ q]; exact k6 l h0 h1
  · rw [show (((n : Nat) : Int) - 1 + 1).toNat = n by omega]
    rw [zsum_ch (f := fun j => fset be u (be u + be (qu n)) (qu j)) (g := fun j => be (qu j)) n m0 (by omega) (fun t ht hn => by
      refine bO _ (fun z => ?_)
      have := hinj t m0 (by omega) (by omega) n2 (by omega) (by omega)
      omega)]
    rw [← hu0, bU]
    omega
  · rw [show (((n : Nat) : Int) - 1 + 1).toNat = n by omega]
    have e8 : zsum (fun j => lo (qu j)) (n + 1) = zsum (fun j => lo (qu j)) n + lo (qu n) := rfl
    rw [e8] at k8
    omega
end FL2
