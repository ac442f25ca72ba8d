/-! ORDER of a cure: pure, and the class's inOrder -/
def plP (N : zM) (S left t : Int) : Prop := tbs left t ∧ (pli N S (N 6 t) ∨ pli N S (N 7 t))
noncomputable def plw (N : zM) (S left : Int) : Nat → Int
  | 0 => -1
  | t + 1 => if plw N S left t = -1 then (@ite _ (plP N S left t) (Classical.propDecidable _) (t : Int) (-1)) else plw N S left t
noncomputable def plow (N : zM) (S left : Int) : Int := plw N S left (N 4 2).toNat
noncomputable def pord (N : zM) : Nat → Int → Int → Int
  | 0, S, left => plow N S left
  | j + 1, S, left => if plow N S left = -1 then -1 else pord N j (zor S (zshl 1 (plow N S left))) (zand left (zxor (zshl 1 (plow N S left)) (-1)))
theorem plw_s {N : zM} {S left : Int} (t : Nat) : plw N S left (t + 1) = if plw N S left t = -1 then (@ite _ (plP N S left t) (Classical.propDecidable _) (t : Int) (-1)) else plw N S left t := rfl
theorem plw_stop {N : zM} {S left : Int} {t : Nat} (h : ¬ plw N S left t = -1) : ∀ n : Nat, plw N S left (t + n) = plw N S left t
  | 0 => rfl
  | n + 1 => by rw [show t + (n + 1) = (t + n) + 1 by omega, plw_s, plw_stop h n, if_neg h]
theorem plw_in {N : zM} {S left : Int} : ∀ t : Nat, plw N S left t = -1 ∨ ((0 ≤ plw N S left t ∧ plw N S left t < t) ∧ plP N S left (plw N S left t))
  | 0 => Or.inl rfl
  | t + 1 => by
    rw [plw_s]
    by_cases q : plw N S left t = -1
    · rw [if_pos q]
      by_cases q2 : plP N S left t
      · rw [if_pos q2]; exact Or.inr ⟨by omega, q2⟩
      · rw [if_neg q2]; exact Or.inl rfl
    · rw [if_neg q]
      rcases plw_in (N := N) (S := S) (left := left) t with y | y
      · exact Or.inl y
      · exact Or.inr ⟨by omega, y.2⟩
theorem plow_in {N : zM} {S left : Int} (hW : pW N) (h : ¬ plow N S left = -1) : (0 ≤ plow N S left ∧ plow N S left < N 4 2) ∧ plP N S left (plow N S left) := by
  have hm := hW.1
  rcases plw_in (N := N) (S := S) (left := left) (N 4 2).toNat with y | y
  · exact absurd y h
  · exact ⟨by unfold plow; omega, y.2⟩
theorem plow_0 {N : zM} {S left : Int} (hW : pW N) (h : ∀ i, ¬ tbs left i) : plow N S left = -1 := Classical.byContradiction fun z => h _ (plow_in hW z).2.1
theorem pord_n {N : zM} {S left : Int} (h : plow N S left = -1) : ∀ j, pord N j S left = -1
  | 0 => h
  | j + 1 => by
    show (if plow N S left = -1 then -1 else _) = (-1 : Int)
    rw [if_pos h]
theorem pcard_nn (x : Int) : 0 ≤ pcard x ∧ pcard x ≤ 24 := by
  have := zsum_b (f := fun i => if tb x i = true then 1 else 0) (b := 1) 24 (fun i _ => by split <;> omega)
  unfold pcard
  omega
theorem pcard_z {x : Int} (h : pcard x = 0) : ∀ i, 0 ≤ i → i < 24 → ¬ tbs x i := fun i i0 i1 z => by
  have := zsum_ge (f := fun i => if tb x i = true then 1 else 0) 24 i.toNat (by omega) (fun i _ => by split <;> omega)
  rw [show ((i.toNat : Nat) : Int) = i by omega, if_pos z.2] at this
  unfold pcard at h
  omega
theorem pcard_p {x : Int} {i : Int} (h : tbs x i) (hi : i < 24) : 0 < pcard x := by
  have := pcard_nn x
  by_cases q : pcard x = 0
  · exact absurd h (pcard_z q i h.1.1 hi)
  · omega
theorem tbs_del {x t i : Int} (ht : 0 ≤ t ∧ t < 32) : tbs (zand x (zxor (zshl 1 t) (-1))) i ↔ tbs x i ∧ i ≠ t := by
  rw [tbs_and]
  constructor
  · rintro ⟨a, b⟩
    exact ⟨a, fun e => (tbs_not b.1).mp b ((tbs_1 ht).mpr e)⟩
  · rintro ⟨a, b⟩
    exact ⟨a, (tbs_not a.1).mpr (fun z => b ((tbs_1 ht).mp z))⟩
theorem pcard_del {x t : Int} (ht : 0 ≤ t ∧ t < 24) (h : tbs x t) : pcard (zand x (zxor (zshl 1 t) (-1))) = pcard x - 1 := by
  have d := zsum_ch (f := fun i => if tb (zand x (zxor (zshl 1 t) (-1))) i = true then 1 else 0) (g := fun i => if tb x i = true then 1 else 0) 24 t.toNat (by omega) (fun i hi q => by
    have := tbs_del (x := x) (t := t) (i := (i : Int)) (by omega)
    unfold tbs at this
    have hi' : 0 ≤ (i : Int) ∧ (i : Int) < 32 := by omega
    have hne : (i : Int) ≠ t := by omega
    simp only [hi', true_and, hne, ne_eq, not_false_eq_true, and_true] at this
    by_cases y : tb x i = true
    · rw [if_pos y, if_pos (this.mpr y)]
    · rw [if_neg y, if_neg (fun z => y (this.mp z))])
  rw [show ((t.toNat : Nat) : Int) = t by omega, if_pos h.2, if_neg (fun z => ((tbs_del (x := x) (t := t) (i := t) (by omega)).mp ⟨by omega, z⟩).2 rfl)] at d
  unfold pcard
  omega
theorem pcard_add {x t : Int} (ht : 0 ≤ t ∧ t < 24) (h : ¬ tbs x t) : pcard (zor (zshl 1 t) x) = pcard x + 1 := by
  have d := zsum_ch (f := fun i => if tb (zor (zshl 1 t) x) i = true then 1 else 0) (g := fun i => if tb x i = true then 1 else 0) 24 t.toNat (by omega) (fun i hi q => by
    have : tb (zor (zshl 1 t) x) i = tb x i := by
      rw [tb_or, tb_shl (by omega) (by omega) (by omega) (by omega), decide_eq_false (by omega), Bool.false_or]
    rw [this])
  rw [show ((t.toNat : Nat) : Int) = t by omega, if_neg (fun z => h ⟨by omega, z⟩), if_pos (by rw [tb_or, tb_shl (by omega) (by omega) (by omega) (by omega)]; simp)] at d
  unfold pcard
  omega
theorem bct_c (s : Nat) : ∀ n, bct s (n + 1) = s % 2 + bct (s / 2) n
  | 0 => by
    show 0 + (if s.testBit 0 then 1 else 0) = s % 2 + 0
    rw [Nat.testBit_zero]
    rcases Nat.mod_two_eq_zero_or_one s with q | q <;> simp [q]
  | n + 1 => by
    show bct s (n + 1) + (if s.testBit (n + 1) then 1 else 0) = s % 2 + (bct (s / 2) n + (if (s / 2).testBit n then 1 else 0))
    rw [bct_c s n, Nat.testBit_succ]
    omega
theorem bct_z : ∀ n, bct 0 n = 0
  | 0 => rfl
  | n + 1 => by rw [bct_c, Nat.zero_div, bct_z n]
theorem pcard_ln : ∀ {C : List Int} {s n : Nat}, (∀ x, x ∈ C → 0 ≤ x ∧ x < 24) → C.Pairwise (· < ·) → s < 2 ^ C.length → C.length ≤ n → pcard (pln C s) = (bct s n : Nat)
  | [], s, n, _, _, hs, _ => by
    have : s = 0 := by simp at hs; omega
    rw [this, bct_z]
    decide
  | c :: C, s, n, hC, hu, hs, hn => by
    rw [List.pairwise_cons] at hu
    have hc := hC c List.mem_cons_self
    have hC' : ∀ x, x ∈ C → 0 ≤ x ∧ x < 24 := fun x hx => hC x (List.mem_cons_of_mem _ hx)
    simp only [List.length_cons] at hs hn
    obtain ⟨n', rfl⟩ : ∃ n', n = n' + 1 := ⟨n - 1, by omega⟩
    have ih := pcard_ln (C := C) (s := s / 2) (n := n') hC' hu.2 (by rw [Nat.pow_succ] at hs; omega) (by omega)
    have hnot : ¬ tbs (pln C (s / 2)) c := fun z => by
      obtain ⟨k, h1, h2, _⟩ := (pln_b hC' c).mp z
      have := hu.1 _ (List.getElem_mem h1)
      omega
    show pcard (zor (if s % 2 = 1 then zshl 1 c else 0) (pln C (s / 2))) = _
    rw [bct_c]
    by_cases q : s % 2 = 1
    · rw [if_pos q, pcard_add hc hnot, ih]; omega
    · rw [if_neg q]
      have : zor 0 (pln C (s / 2)) = pln C (s / 2) := tbs_ext (zor_r _ _) (pln_r _ _) (fun i => by rw [tbs_or]; exact ⟨fun z => z.elim (fun y => absurd y (tbs_0 i)) id, Or.inr⟩)
      rw [this, ih]; omega
theorem bct_top {s : Nat} {c : Nat} (hs : s < 2 ^ c) : ∀ n, bct s (c + n) = bct s c
  | 0 => rfl
  | n + 1 => by
    show bct s (c + n) + (if s.testBit (c + n) then 1 else 0) = bct s c
    rw [bct_top hs n, Nat.testBit_lt_two_pow (Nat.lt_of_lt_of_le hs (Nat.pow_le_pow_right (by omega) (by omega)))]
    simp
section OR
variable {Q : Int → zM → Prop} {M : zM}
theorem c43 {left : Int} (hW : zWC M) (hO : zFO M 115) (hQ : Q (plow (pnet M) (M 115 0) left) M) : zF 43 Q [(2, 112), (2, 4), (0, left)] M := by
  have hm := hW.1
  have hli := zFO_li hO
  unfold plow at hQ
  rw [pnet_42] at hQ
  have key : ∀ (n t : Nat), ((t : Nat) : Int) + n = M 4 2 → plw (pnet M) (M 115 0) left t = -1 → zS 43 Q 2 [(2, 112), (2, 4), (0, left), (0, (t : Int)), (3, 0)] [] M := by
    intro n
    induction n with
    | zero =>
      intro t ht h1
      rw [show (M 4 2).toNat = t by omega, h1] at hQ
      exact s43_2 ⟨fun _ => hQ, fun q => by omega⟩
    | succ n ih =>
      intro t ht h1
      have hw := (hW.2.2.2.2.1 t (by omega) (by omega)).1
      have skip : ¬ plP (pnet M) (M 115 0) left t → zS 43 Q 2 [(2, 112), (2, 4), (0, left), (0, zw ((t : Int) + 1)), (3, 0)] [] M := fun z => by
        rw [zw_id (by omega)]
        exact ih (t + 1) (by omega) (by rw [plw_s, if_pos h1, if_neg z])
      have got : plP (pnet M) (M 115 0) left t → Q t M := fun z => by
        have e : plw (pnet M) (M 115 0) left (t + 1) = t := by rw [plw_s, if_pos h1, if_pos z]
        have := plw_stop (t := t + 1) (N := pnet M) (S := M 115 0) (left := left) (by rw [e]; omega) n
        rw [show (M 4 2).toNat = t + 1 + n by omega, this, e] at hQ
        exact hQ
      refine s43_2 ⟨fun q => by omega, fun _ => ⟨fun q => skip (fun z => (tbs_shr (by omega)).mp q z.1), fun q => ⟨by omega, ?_⟩⟩⟩
      rw [tbs_shr (by omega), Classical.not_not] at q
      refine c2 rfl (by omega) (fun z => ⟨fun y => absurd rfl y, fun _ => ?_⟩) (fun z => ⟨fun _ => got ⟨q, Or.inl ?_⟩, fun y => absurd y (by decide)⟩)
      · refine c2 rfl (by omega) (fun z2 => ⟨fun _ => skip (fun y => ?_), fun y => absurd rfl y⟩) (fun z2 => ⟨fun y => absurd y (by decide), fun _ => got ⟨q, Or.inr ?_⟩⟩)
        · have := y.2
          rw [pnet_6, pnet_7] at this
          rcases this with w | w
          · exact z ((hli _).mpr w)
          · exact z2 ((hli _).mpr w)
        · rw [pnet_7]; exact (hli _).mp z2
      · rw [pnet_6]; exact (hli _).mp z
  exact s43_0 (key (M 4 2).toNat 0 (by omega) rfl)
theorem c42 {k : Nat} (hW : zWC M) (hS : ∀ l, tbs (M 4 3) l → l < M 4 2) (ht : ∀ l, tbs (M 112 0) l → l < M 4 2) (hc : pcard (M 112 0) = M 112 1) (hQ : ∀ M', zfm 115 122 M M' → Q (pord (pnet M) k (M 4 3) (M 112 0)) M') : zF 42 Q [(2, 112), (2, 4), (0, (k : Int))] M := by
  have hm := hW.1
  have hpW := pW_of hW
  have hcb := pcard_nn (M 112 0)
  have key : ∀ (n i j : Nat) (M' : zM) (S left : Int), ((i : Nat) : Int) + n = M 112 1 → i + j = k → zfm 115 122 M M' → (∀ l, tbs S l → l < M 4 2) → (∀ l, tbs left l → l < M 4 2) → pcard left = (n : Int) → pord (pnet M) j S left = pord (pnet M) k (M 4 3) (M 112 0) → zS 42 Q 14 [(2, 112), (2, 4), (0, (k : Int)), (0, left), (0, S), (0, (i : Int)), (3, 0)] [] M' := by
    intro n
    induction n with
    | zero =>
      intro i j M' S left hi hj hM h1 h2 h3 h4
      refine s42_14 ⟨fun _ => ?_, fun q => ?_⟩
      · have := pord_n (plow_0 (S := S) hpW (fun i z => pcard_z (by omega) i z.1.1 (by have := h2 i z; omega) z)) j
        rw [← this, h4]
        exact hQ M' hM
      · rw [zfm_row hM (by omega)] at q; omega
    | succ n ih =>
      intro i j M' S left hi hj hM h1 h2 h3 h4
      have hr : ∀ a, 4 ≤ a → a ≤ 11 → M' a = M a := fun a p q => zfm_row hM (by omega)
      have hpM : pnet M' = pnet M := pnet_cg hr
      have e4 : M' 4 = M 4 := hr 4 (by decide) (by decide)
      refine s42_14 ⟨fun q => ?_, fun _ => c1 rfl (zWC_cg hW hr) (by rw [e4]; exact h1) (fun M1 g1 g2 g3 => ?_)⟩
      · rw [zfm_row hM (by omega)] at q; omega
      · have row : ∀ a, ¬ (115 ≤ a ∧ a ≤ 122) → M1 a = M' a := fun a ha => zFf_row g1 (by omega)
        have hr1 : ∀ a, 4 ≤ a → a ≤ 11 → M1 a = M a := fun a p q => by rw [row a (by omega)]; exact hr a p q
        have hp1 : pnet M1 = pnet M := pnet_cg hr1
        have f1 : zfm 115 122 M M1 := zfm_t hM (fun a i p => by rw [row a (by omega)])
        refine c43 (zWC_cg hW hr1) g3 ?_
        rw [hp1, g2]
        refine ⟨fun q => ?_, fun q => ⟨fun q2 => ?_, fun q2 => ?_⟩⟩
        · have := pord_n q j
          rw [q, ← this, h4]
          exact hQ M1 f1
        · obtain ⟨j', rfl⟩ : ∃ j', j = j' + 1 := ⟨j - 1, by omega⟩
          have e : pord (pnet M) (j' + 1) S left = if plow (pnet M) S left = -1 then -1 else pord (pnet M) j' (zor S (zshl 1 (plow (pnet M) S left))) (zand left (zxor (zshl 1 (plow (pnet M) S left)) (-1))) := rfl
          rw [e, if_neg q] at h4
          obtain ⟨p1, p2⟩ := plow_in hpW q
          rw [pnet_42] at p1
          rw [zw_id (by omega)]
          refine ih (i + 1) j' M1 _ _ (by omega) (by omega) f1 (fun l hl => ?_) (fun l hl => ?_) ?_ h4
          · rcases tbs_or.mp hl with y | y
            · exact h1 l y
            · rw [tbs_1 (by omega)] at y; rw [y]; exact p1.2
          · exact h2 l (((tbs_del (by omega)).mp hl).1)
          · rw [pcard_del (by omega) p2.1]; omega
        · have : j = 0 := by omega
          subst this
          have e : pord (pnet M) 0 S left = plow (pnet M) S left := rfl
          rw [← e, h4]
          exact hQ M1 f1
  exact s42_0 (key (pcard (M 112 0)).toNat 0 k M (M 4 3) (M 112 0) (by omega) (by omega) zfm_r hS ht (by omega) rfl)
end OR
