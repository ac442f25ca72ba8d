/-! what holds when both are made -/
theorem zbM_all {n : Nat} {p : Nat → Bool} (h : (List.range n).all p = true) {v : Int} (h0 : 0 ≤ v) (h1 : v < n) : p v.toNat = true := List.all_eq_true.mp h _ (List.mem_range.mpr (by omega))
theorem zrf_56 {c j o : Nat} (h : zrf c j = some o) : j < 56 := by
  rcases Nat.lt_or_ge j 56 with q | q
  · exact q
  · exfalso
    unfold zrf at h
    have key : ∀ l ∈ zrfL, l.length ≤ 56 := by decide +kernel
    have hl : (zrfL.getD c []).length ≤ 56 := by
      rw [List.getD_eq_getElem?_getD]
      rcases Nat.lt_or_ge c zrfL.length with a | a
      · rw [List.getElem?_eq_getElem a]; exact key _ (List.getElem_mem _)
      · rw [List.getElem?_eq_none a]; exact Nat.zero_le _
    rw [List.getD_eq_getElem?_getD, List.getElem?_eq_none (by omega)] at h
    cases h
section BT
variable {M : zM}
set_option maxRecDepth 20000 in
theorem zbM_lay (h : (List.range 159).all (fun a => if (zKl.getD a (9, 0)).1 = 2 then (List.range 56).all (fun j => match zrf (zKl.getD a (9, 0)).2 j with | some o => decide (M (a : Int) (j : Int) = (a : Int) + o) | none => true) else true) = true) : zLay M := by
  intro a c j o hk hr
  match a, hk with
  | .ofNat i, hk =>
    have hi : i < 159 := by
      rcases Nat.lt_or_ge i 159 with q | q
      · exact q
      · exfalso
        have : zKT (Int.ofNat i) = (9, 0) := by
          show zKl.getD i (9, 0) = (9, 0)
          rw [List.getD_eq_getElem?_getD, List.getElem?_eq_none (Nat.le_trans (by decide) q)]
          rfl
        rw [this] at hk
        cases hk
    have h1 := List.all_eq_true.mp h i (List.mem_range.mpr hi)
    have h2 : zKl.getD i (9, 0) = (2, c) := hk
    rw [h2, if_pos rfl] at h1
    have h3 := List.all_eq_true.mp h1 j (List.mem_range.mpr (zrf_56 hr))
    dsimp only at h3
    rw [hr] at h3
    exact of_decide_eq_true h3
  | .negSucc i, hk => cases hk
theorem zbM_Inv (h : zbM M = true) : zLay M ∧ mN (pnet M) (M 4 3) M ∧ zWC M ∧ ∀ M', (∀ a i : Int, ¬ (142 ≤ a ∧ a ≤ 148) → ¬ (a = 123 ∧ i = 31) → M' a i = M a i) → mN (pnet M) (M 4 3) M' → zLS M' → Inv M' := by
  unfold zbM at h
  simp only [Bool.and_eq_true] at h
  obtain ⟨⟨⟨⟨⟨⟨h1, h2⟩, h3⟩, h4⟩, h5⟩, h6⟩, h7⟩ := h
  obtain ⟨⟨a1, a2, a3, a4, a5, a6, a7⟩, ⟨b0, b1, b2, b3, b4, b5⟩, ⟨c0, c1, c2, c3, c4⟩⟩ := of_decide_eq_true h1
  have d2 : ∀ j, 0 ≤ j → j < 4 → M 2 j = 0 ∧ M 124 j = 0 := fun j j0 j1 => by
    have := of_decide_eq_true (zbM_all h2 j0 j1)
    rwa [show ((j.toNat : Nat) : Int) = j by omega] at this
  have d3 : ∀ v, 0 ≤ v → v < 16 → M 5 v = 0 ∧ M 126 v = 0 ∧ M 127 v = 0 := fun j j0 j1 => by
    have := of_decide_eq_true (zbM_all h3 j0 j1)
    rwa [show ((j.toNat : Nat) : Int) = j by omega] at this
  have d4 : ∀ v, 0 ≤ v → v < 17 → M 10 v = 0 := fun j j0 j1 => by
    have := of_decide_eq_true (zbM_all h4 j0 j1)
    rwa [show ((j.toNat : Nat) : Int) = j by omega] at this
  have d5 : ∀ l, 0 ≤ l → l < 24 → M 17 l = 0 ∧ M 18 l = -1 := fun j j0 j1 => by
    have := of_decide_eq_true (zbM_all h5 j0 j1)
    rwa [show ((j.toNat : Nat) : Int) = j by omega] at this
  have d6 := of_decide_eq_true h6
  have n0 : ∀ i, ¬ tbs (M 4 0) i := fun i => by rw [c0]; exact tbs_0 i
  have n1 : ∀ i, ¬ tbs (M 4 1) i := fun i => by rw [c1]; exact tbs_0 i
  have n3 : ∀ i, ¬ tbs (M 4 3) i := fun i => by rw [c3]; exact tbs_0 i
  have n4 : ∀ i, ¬ tbs (M 4 4) i := fun i => by rw [c4]; exact tbs_0 i
  have m0 : ∀ i, ¬ tbs (M 12 0) i := fun i => by rw [b0]; exact tbs_0 i
  have m2 : ∀ i, ¬ tbs (M 12 2) i := fun i => by rw [b2]; exact tbs_0 i
  have hW : zWC M := by
    refine ⟨by omega, fun v z => absurd z (n0 v), fun v z => absurd z (n1 v), fun v v0 v1 => ⟨by rw [(d3 v v0 v1).1]; omega, fun _ => (d3 v v0 v1).1, fun _ => (d3 v v0 v1).1⟩, fun l l0 l1 => by omega, fun v v0 v1 => ?_⟩
    have e1 := d4 v v0 (by omega)
    have e2 := d4 (v + 1) (by omega) (by omega)
    exact ⟨by omega, fun i i0 i1 => by omega, fun i j i0 i1 => by omega, fun l l0 l1 => by omega⟩
  have hrad : prad (pnet M) (M 4 3) := fun l hl => absurd hl (n3 l)
  have hn : nst M := ⟨hW, ⟨⟨fun l hl => absurd hl (n3 l), hrad⟩, fun l hl => absurd hl (n3 l), by rw [c3]; unfold r32; omega⟩, fun l hl => absurd hl (n4 l), by rw [c0]; unfold r32; omega, by rw [c1]; unfold r32; omega, by rw [c4]; unfold r32; omega⟩
  have hmN : mN (pnet M) (M 4 3) M := by
    refine ⟨by rw [pnet_42]; omega, fun v v0 v1 => ?_, fun l l0 l1 => by rw [pnet_42] at l1; omega⟩
    rw [pnet_40, pnet_41, pnet_5]
    have e := d3 v v0 v1
    rw [e.1, e.2.1, e.2.2]
    exact ⟨⟨fun z => absurd z (n1 v), fun z => absurd z (by decide)⟩, ⟨fun z => absurd z (n0 v), fun z => absurd rfl z⟩, rfl, by omega, by omega⟩
  have hFO : zFO M 12 := by
    refine ⟨fun v hv => absurd hv (n0 v), fun l hl => absurd hl (m0 l), Or.inl ⟨b1, fun l hl => absurd hl (m0 l)⟩, ⟨fun v z => absurd z (n1 v), fun v z => absurd z (m2 v), fun v z => absurd z (m2 v), fun l u v z => absurd z (m0 l)⟩, fun v => ⟨fun z => absurd z (m2 v), fun z => absurd z.1 (n0 v)⟩, ⟨fun v z => absurd z (m2 v), fun v z => absurd z (m2 v), fun l l0 l1 => ⟨fun _ => (d5 l l0 l1).1, fun z => absurd (d5 l l0 l1).2 z⟩, fun v z => absurd z (m2 v), fun l l0 l1 => ?_⟩, ?_, ?_, ?_⟩
    · have : M (12 + 5) l = 0 := (d5 l l0 l1).1
      omega
    · rw [b4]
      have := zsum_b (f := fun v => if tb (M 12 2) v = true then M 5 v else 0) (b := 0) 16 (fun i hi => by
        show 0 ≤ (if tb (M 12 2) i = true then M 5 i else 0) ∧ (if tb (M 12 2) i = true then M 5 i else 0) ≤ 0
        rw [if_neg (fun z => m2 i ⟨by omega, z⟩)]; omega)
      omega
    · rw [b5, c2]; rfl
    · rw [b3]
      refine ⟨by omega, fun i _ _ => ?_⟩
      rw [tb_0]
      exact ⟨fun z => absurd z (by decide), fun z => absurd z.1 (by omega)⟩
  refine ⟨zbM_lay h7, hmN, hW, fun M' g gN gL => ?_⟩
  have row : ∀ a, ¬ (142 ≤ a ∧ a ≤ 148) → a ≠ 123 → M' a = M a := fun a p q => funext fun i => g a i p (by omega)
  have r4 : ∀ a, 4 ≤ a → a ≤ 11 → M' a = M a := fun a p q => row a (by omega) (by omega)
  have hp : pnet M' = pnet M := pnet_cg r4
  have e4 : M' 4 = M 4 := r4 4 (by omega) (by omega)
  refine ⟨[], fun X hX => absurd hX List.not_mem_nil, ⟨⟨⟨by rw [row 28 (by omega) (by omega)]; exact a5, by decide⟩, ?_, ?_, fun k hk => absurd hk (Nat.not_lt_zero k)⟩, nst_cg hn r4, ⟨zFO_cg hFO r4 (fun a p q => row a (by omega) (by omega)), by rw [row 12 (by omega) (by omega), e4, b0, c3]⟩, ⟨Or.inl (by rw [row 97 (by omega) (by omega)]; exact a6), Or.inl (by rw [row 112 (by omega) (by omega)]; exact a7)⟩⟩, ⟨⟨by rw [g 123 11 (by omega) (by omega)]; exact a4, by decide, fun k hk => absurd hk (Nat.not_lt_zero k)⟩, by rw [hp, e4]; exact gN, gL⟩, ⟨by rw [row 1 (by omega) (by omega)]; omega, by rw [row 1 (by omega) (by omega), g 123 2 (by omega) (by omega)]; omega, fun i i0 i1 => by rw [row 1 (by omega) (by omega)] at i1; omega⟩, fun j j0 j1 => by rw [row 2 (by omega) (by omega), row 124 (by omega) (by omega), (d2 j j0 j1).1, (d2 j j0 j1).2]⟩
  · rw [row 29 (by omega) (by omega)]
    intro k k0 k1
    have : k = 0 ∨ k = 1 ∨ k = 2 ∨ k = 3 ∨ k = 4 ∨ k = 5 := by omega
    unfold zkr
    rcases this with e | e | e | e | e | e <;> subst e <;> omega
  · rw [row 29 (by omega) (by omega)]
    intro k k' k0 k1 k0' k1' e
    have q1 : k = 0 ∨ k = 1 ∨ k = 2 ∨ k = 3 ∨ k = 4 ∨ k = 5 := by omega
    have q2 : k' = 0 ∨ k' = 1 ∨ k' = 2 ∨ k' = 3 ∨ k' = 4 ∨ k' = 5 := by omega
    rcases q1 with z | z | z | z | z | z <;> rcases q2 with y | y | y | y | y | y <;> subst z <;> subst y <;> omega
/-- the reference's constructor, from the call of lays -/
theorem boot_Inv {Q : zQ} (h : zbM M = true) (hQ : ∀ M', zLay M' → Inv M' → Q 0 158 M') : zG 97 123 Q 288 [(2, 123)] [(2, 123)] 158 M := by
  obtain ⟨hL, hN, hW, hI⟩ := zbM_Inv h
  have hc := c118' (Q := fun _ M' => Inv M') (pW_of hW) hN (fun M' b1 b2 b3 => hI M' (fun a i p q => b1 a i p q) b2 b3)
  refine zG_of ?_
  show zcall 97 123 (zG 97 123 Q) (zent zG) 291 118 1 0 [(2, 123)] [(2, 123)] 158 M
  refine ⟨⟨show zKT 123 = (2, 9) from rfl, Nat.le_of_ble_eq_true rfl, Nat.le_of_ble_eq_true rfl, Nat.le_of_ble_eq_true rfl, Nat.le_of_ble_eq_true rfl, trivial⟩, ?_⟩
  refine zG_mono (fun r n' M' z => ?_) (hc hL 158)
  obtain ⟨rfl, z2, z3⟩ := z
  exact ⟨rfl, zG_of (hQ M' z2 z3)⟩
end BT
theorem boot_ex : ∃ M1, (∀ Q : zQ, Q 0 122 M1 → zC 67 Q [(2, 1)] 1 (fun _ _ => 0)) ∧ (∀ Q : zQ, (∀ M', zLay M' → Inv M' → Q 0 158 M') → zC 97 Q [(2, 123)] 123 M1) := by
  obtain ⟨M1, M2, h1, h2, h3⟩ := zboot_ex
  exact ⟨M1, h1, fun Q hQ => h2 Q (boot_Inv h3 hQ)⟩
