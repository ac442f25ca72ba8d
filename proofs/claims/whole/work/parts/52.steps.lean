/-! lessens ends soon: shapes of a run of best exchanges are neighbours only one behind the other -/
theorem kP_short {fd : Int → Prop} {fi se : Int → Int} {S : Int → Prop} : ∀ (n : Nat) {P : List (Int × Int)} {a b : Int}, P.length ≤ n → kP fd fi se S P a b → ∃ P', kP fd fi se S P' a b ∧ (kls P').Nodup
  | n, [], a, b, _, h => ⟨[], h, List.nodup_nil⟩
  | 0, _ :: _, _, _, hn, _ => by simp at hn
  | n + 1, e :: P, a, b, hn, ⟨h1, h2, y, h3, h4⟩ => by
    obtain ⟨R, r1, r2⟩ := kP_short n (P := P) (by simp at hn; omega) h4
    by_cases q : e.1 ∈ kls R
    · obtain ⟨e', e1, e2⟩ := List.mem_map.mp q
      obtain ⟨A, C, hA⟩ := List.append_of_mem e1
      rw [hA] at r1 r2
      obtain ⟨z, z1, w1, w2, y', w3, w4⟩ := kP_app.mp r1
      unfold kls at r2
      rw [List.map_append, List.nodup_append] at r2
      rw [e2] at w1 w3
      rcases zbt_ends h3 w3 with ⟨p1, p2⟩ | ⟨p1, p2⟩
      · refine ⟨e' :: C, ⟨by rw [e2]; exact w1, by rw [p1]; exact h2, y', by rw [e2]; exact w3, w4⟩, r2.2.1⟩
      · refine ⟨C, kP_sm h2 (by rw [← p2]; exact w4), ?_⟩
        have := r2.2.1
        rw [List.map_cons, List.nodup_cons] at this
        exact this.2
    · exact ⟨e :: R, ⟨h1, h2, y, h3, r1⟩, by unfold kls; rw [List.map_cons, List.nodup_cons]; exact ⟨q, r2⟩⟩
theorem kP_ex {fd : Int → Prop} {fi se : Int → Int} {S : Int → Prop} {t : Int} (h : kcon fd fi se S (fi t) (se t)) : ∃ P, kRing fd fi se S t P := by
  have dec : ∀ x, ∃ b : Bool, b = true ↔ ∃ P, kP fd fi se S P (fi t) x := fun x => by
    by_cases q : ∃ P, kP fd fi se S P (fi t) x
    · exact ⟨true, by simp [q]⟩
    · exact ⟨false, by simp [q]⟩
  obtain ⟨c, hc⟩ : ∃ c : Int → Bool, ∀ x, c x = true ↔ ∃ P, kP fd fi se S P (fi t) x := ⟨fun x => Classical.choose (dec x), fun x => Classical.choose_spec (dec x)⟩
  have beq : ∀ x y, ((∃ P, kP fd fi se S P (fi t) x) ↔ ∃ P, kP fd fi se S P (fi t) y) → c x = c y := fun x y q => by
    rw [← hc x, ← hc y] at q
    exact Bool.eq_iff_iff.mpr q
  have hcon := h c (fun x y fx fy => beq x y ⟨fun ⟨P, p⟩ => ⟨P, kP_se (Or.inr ⟨fx, fy⟩) p⟩, fun ⟨P, p⟩ => ⟨P, kP_se (Or.inr ⟨fy, fx⟩) p⟩⟩) (fun l hl => beq _ _ ⟨fun ⟨P, p⟩ => ⟨P ++ [(l, fi l)], kP_app.mpr ⟨_, p, hl, ksm_r _, se l, Or.inl ⟨rfl, rfl⟩, ksm_r _⟩⟩, fun ⟨P, p⟩ => ⟨P ++ [(l, se l)], kP_app.mpr ⟨_, p, hl, ksm_r _, fi l, Or.inr ⟨rfl, rfl⟩, ksm_r _⟩⟩⟩)
  have h1 : c (fi t) = true := (hc _).mpr ⟨[], ksm_r _⟩
  rw [h1] at hcon
  obtain ⟨P, p⟩ := (hc _).mp hcon.symm
  obtain ⟨P', p1, p2⟩ := kP_short P.length (Nat.le_refl _) p
  exact ⟨P', p1, p2⟩
def r32 (x : Int) : Prop := -2147483648 ≤ x ∧ x < 2147483648
theorem tbs_ext {x y : Int} (hx : r32 x) (hy : r32 y) (h : ∀ i, tbs x i ↔ tbs y i) : x = y := tb_ext hx hy (fun i a b => Bool.eq_iff_iff.mpr ⟨fun q => ((h i).mp ⟨⟨a, b⟩, q⟩).2, fun q => ((h i).mpr ⟨⟨a, b⟩, q⟩).2⟩)
def pcard (s : Int) : Int := zsum (fun i => if tb s i = true then 1 else 0) 24
/-- shapes that an exchange tells apart -/
def pnb (s s' : Int) : Prop := ∃ t l, (0 ≤ t ∧ t < 24) ∧ (0 ≤ l ∧ l < 24) ∧ ¬ tbs s t ∧ tbs s l ∧ ∀ x, 0 ≤ x → x < 24 → (tbs s' x ↔ (tbs s x ∨ x = t) ∧ x ≠ l)
theorem pnb_s {s s' : Int} (h : pnb s s') : pnb s' s := by
  obtain ⟨t, l, ht, hl, h1, h2, h3⟩ := h
  have htl : t ≠ l := fun e => h1 (by rw [e]; exact h2)
  refine ⟨l, t, hl, ht, fun z => ((h3 l hl.1 hl.2).mp z).2 rfl, (h3 t ht.1 ht.2).mpr ⟨Or.inr rfl, htl⟩, fun x x0 x1 => ?_⟩
  rw [h3 x x0 x1]
  by_cases e1 : x = t
  · rw [e1]; exact ⟨fun z => absurd z h1, fun z => absurd rfl z.2⟩
  · by_cases e2 : x = l
    · rw [e2]; exact ⟨fun _ => ⟨Or.inr rfl, by rw [← e2]; exact e1⟩, fun _ => h2⟩
    · exact ⟨fun z => ⟨Or.inl ⟨Or.inl z, e2⟩, e1⟩, fun z => z.1.elim (fun y => y.1.elim id (fun w => absurd w e1)) (fun y => absurd y e2)⟩
def pcode (s : Int) (x : Nat) : Nat := ((BitVec.ofInt 32 s ^^^ (1#32 <<< x)).setWidth 23).toNat
theorem pcode_lt (s : Int) (x : Nat) : pcode s x < 8388608 := by
  unfold pcode
  exact BitVec.isLt _
theorem tb_bv (s : Int) (i : Nat) : tb s i = (BitVec.ofInt 32 s).getLsbD i := by
  unfold tb
  rw [show ((i : Nat) : Int).toNat = i from rfl]
  rfl
theorem pcode_bit {s s' : Int} {x x' : Nat} (hx : x < 24) (hx' : x' < 24) (h : pcode s x = pcode s' x') : ∀ i : Nat, i < 23 → (tb s i ^^ decide (i = x)) = (tb s' i ^^ decide (i = x')) := fun i hi => by
  have h1 := BitVec.eq_of_toNat_eq h
  have h2 := congrArg (fun v => BitVec.getLsbD v i) h1
  rw [BitVec.getLsbD_setWidth, BitVec.getLsbD_setWidth, BitVec.getLsbD_xor, BitVec.getLsbD_xor] at h2
  have sh : ∀ y : Nat, y < 24 → (1#32 <<< y).getLsbD i = decide (i = y) := fun y hy => by
    have key : ∀ y : Nat, y < 24 → ∀ i : Nat, i < 23 → (1#32 <<< y).getLsbD i = decide (i = y) := by decide +kernel
    exact key y hy i hi
  rw [sh x hx, sh x' hx'] at h2
  rw [tb_bv, tb_bv]
  simp only [hi, decide_true, Bool.true_and] at h2
  exact h2
def b01 (b : Bool) : Int := if b = true then 1 else 0
theorem b01_r (b : Bool) : b01 b = 0 ∨ b01 b = 1 := by cases b <;> simp [b01]
theorem pflip {b : Int → Bool} {n x : Nat} (hx : x < n) : zsum (fun i => b01 (b i ^^ decide (i = (x : Int)))) n = zsum (fun i => b01 (b i)) n + 1 - 2 * b01 (b x) := by
  have h := zsum_ch (f := fun i => b01 (b i ^^ decide (i = (x : Int)))) (g := fun i => b01 (b i)) n x hx (fun i hi q => by
    have : ¬ ((i : Nat) : Int) = (x : Int) := by omega
    simp [this])
  rw [h]
  simp only [decide_true]
  cases b x <;> simp [b01] <;> omega
theorem pcode_inj {s s' : Int} {x x' : Nat} (hx : x < 24) (hx' : x' < 24) (hc : pcard s = pcard s') (h : pcode s x = pcode s' x') : (x = x' ∧ ∀ i : Nat, i < 24 → tb s i = tb s' i) ∨ pnb s s' := by
  have h1 := pcode_bit hx hx' h
  have f1 := pflip (b := tb s) (n := 24) hx
  have f2 := pflip (b := tb s') (n := 24) hx'
  have c1 : zsum (fun i => b01 (tb s i)) 24 = pcard s := rfl
  have c2 : zsum (fun i => b01 (tb s' i)) 24 = pcard s' := rfl
  rw [c1] at f1
  rw [c2] at f2
  have e23 : zsum (fun i => b01 (tb s i ^^ decide (i = (x : Int)))) 23 = zsum (fun i => b01 (tb s' i ^^ decide (i = (x' : Int)))) 23 := zsum_congr 23 (fun i hi => by
    have := h1 i hi
    have a : decide (((i : Nat) : Int) = (x : Int)) = decide (i = x) := by rw [decide_eq_decide]; omega
    have b : decide (((i : Nat) : Int) = (x' : Int)) = decide (i = x') := by rw [decide_eq_decide]; omega
    rw [a, b, this])
  have g1 : zsum (fun i => b01 (tb s i ^^ decide (i = (x : Int)))) 24 = zsum (fun i => b01 (tb s i ^^ decide (i = (x : Int)))) 23 + b01 (tb s (23 : Nat) ^^ decide (((23 : Nat) : Int) = (x : Int))) := rfl
  have g2 : zsum (fun i => b01 (tb s' i ^^ decide (i = (x' : Int)))) 24 = zsum (fun i => b01 (tb s' i ^^ decide (i = (x' : Int)))) 23 + b01 (tb s' (23 : Nat) ^^ decide (((23 : Nat) : Int) = (x' : Int))) := rfl
  have r1 := b01_r (tb s (23 : Nat) ^^ decide (((23 : Nat) : Int) = (x : Int)))
  have r2 := b01_r (tb s' (23 : Nat) ^^ decide (((23 : Nat) : Int) = (x' : Int)))
  have r3 := b01_r (tb s (x : Int))
  have r4 := b01_r (tb s' (x' : Int))
  have e24 : b01 (tb s (23 : Nat) ^^ decide (((23 : Nat) : Int) = (x : Int))) = b01 (tb s' (23 : Nat) ^^ decide (((23 : Nat) : Int) = (x' : Int))) := by omega
  have binj : ∀ a b : Bool, b01 a = b01 b → a = b := by decide
  have h2 : ∀ i : Nat, i < 24 → (tb s i ^^ decide (i = x)) = (tb s' i ^^ decide (i = x')) := fun i hi => by
    by_cases q : i < 23
    · exact h1 i q
    · have e : i = 23 := by omega
      subst e
      have a : decide (((23 : Nat) : Int) = (x : Int)) = decide (23 = x) := by rw [decide_eq_decide]; omega
      have b : decide (((23 : Nat) : Int) = (x' : Int)) = decide (23 = x') := by rw [decide_eq_decide]; omega
      have := binj _ _ e24
      rw [a, b] at this
      exact this
  by_cases q : x = x'
  · left
    refine ⟨q, fun i hi => ?_⟩
    have := h2 i hi
    rw [q] at this
    revert this
    cases tb s i <;> cases tb s' i <;> cases decide (i = x') <;> simp
  · right
    have a := h2 x hx
    have b := h2 x' hx'
    have o : ∀ i : Nat, i < 24 → i ≠ x → i ≠ x' → tb s i = tb s' i := fun i hi y1 y2 => by
      have := h2 i hi
      simp only [y1, y2, decide_false, Bool.xor_false] at this
      exact this
    simp only [decide_true, q, decide_false, Bool.xor_false, Bool.xor_true] at a
    have q' : ¬ x' = x := fun e => q e.symm
    simp only [decide_true, q', decide_false, Bool.xor_false, Bool.xor_true] at b
    have e1 : b01 (tb s' x) = 1 - b01 (tb s x) := by rw [← a]; cases tb s x <;> rfl
    have e2 : b01 (tb s' x') = 1 - b01 (tb s x') := by
      have : tb s' x' = !tb s x' := by rw [b]; simp
      rw [this]; cases tb s x' <;> rfl
    have d1 := zsum_ch (f := fun i => b01 (tb s' i)) (g := fun i => if i = (x : Int) then b01 (tb s' x) else b01 (tb s i)) 24 x' hx' (fun i hi y => by
      by_cases y2 : i = x
      · subst y2; simp
      · have : ¬ ((i : Nat) : Int) = (x : Int) := by omega
        simp only [this, if_false]
        rw [o i hi y2 y])
    have d2 := zsum_ch (f := fun i => if i = (x : Int) then b01 (tb s' x) else b01 (tb s i)) (g := fun i => b01 (tb s i)) 24 x hx (fun i hi y => by
      have : ¬ ((i : Nat) : Int) = (x : Int) := by omega
      simp only [this, if_false])
    have ne : ¬ ((x' : Nat) : Int) = (x : Int) := by omega
    simp only [ne, if_false, if_true] at d1 d2
    rw [c1] at d2
    rw [c2, d2] at d1
    have r5 := b01_r (tb s (x : Int))
    have r6 := b01_r (tb s (x' : Int))
    have tr : ∀ b : Bool, b01 b = 1 ↔ b = true := by decide
    have tr0 : ∀ b : Bool, b01 b = 0 ↔ ¬ b = true := by decide
    have oo : ∀ y : Int, 0 ≤ y → y < 24 → y ≠ x → y ≠ x' → (tbs s' y ↔ tbs s y) := fun y y0 y1 y2 y3 => by
      obtain ⟨i, rfl⟩ : ∃ i : Nat, y = i := ⟨y.toNat, by omega⟩
      unfold tbs
      rw [o i (by omega) (by omega) (by omega)]
    by_cases p : tb s x = true
    · have p' : ¬ tb s x' = true := (tr0 _).mp (by have := (tr _).mpr p; omega)
      refine ⟨x', x, by omega, by omega, fun z => p' z.2, ⟨by omega, p⟩, fun y y0 y1 => ?_⟩
      by_cases w1 : y = x
      · rw [w1]
        exact ⟨fun z => by (have := z.2; rw [← a, p] at this; exact absurd this (by decide)), fun z => absurd rfl z.2⟩
      · by_cases w2 : y = x'
        · rw [w2]
          refine ⟨fun _ => ⟨Or.inr rfl, ne⟩, fun _ => ⟨by omega, (tr _).mp ?_⟩⟩
          have := (tr0 _).mpr p'
          omega
        · rw [oo y y0 y1 w1 w2]
          exact ⟨fun z => ⟨Or.inl z, w1⟩, fun z => z.1.elim id (fun w => absurd w w2)⟩
    · have p0 := (tr0 _).mpr p
      have p' : tb s x' = true := (tr _).mp (by omega)
      refine ⟨x, x', by omega, by omega, fun z => p z.2, ⟨by omega, p'⟩, fun y y0 y1 => ?_⟩
      by_cases w1 : y = x'
      · rw [w1]
        exact ⟨fun z => by have := (tr _).mpr z.2; have := (tr _).mpr p'; omega, fun z => absurd rfl z.2⟩
      · by_cases w2 : y = x
        · rw [w2]
          exact ⟨fun _ => ⟨Or.inr rfl, fun e => ne e.symm⟩, fun _ => ⟨by omega, (tr _).mp (by omega)⟩⟩
        · rw [oo y y0 y1 w2 w1]
          exact ⟨fun z => ⟨Or.inl z, w1⟩, fun z => z.1.elim id (fun w => absurd w w2)⟩
