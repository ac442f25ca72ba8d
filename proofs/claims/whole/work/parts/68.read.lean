/-! THE TEXT, pure: bytes, figures, items; leaves of both readers -/
noncomputable def cif {α : Type} (p : Prop) (a b : α) : α := @ite _ p (Classical.propDecidable _) a b
theorem cif_t {α : Type} {p : Prop} {a b : α} (h : p) : cif p a b = a := if_pos h
theorem cif_f {α : Type} {p : Prop} {a b : α} (h : ¬ p) : cif p a b = b := if_neg h
def pbt (t : Int → Int) (n p : Int) : Int := if 0 ≤ p ∧ p < n then t p else -1
def pdg (x : Int) : Prop := 48 ≤ x ∧ x ≤ 57
noncomputable def pfv (b : Int → Int) : Nat → Int → Int → Int × Int
  | 0, p, v => (v, p)
  | m + 1, p, v => cif (pdg (b p)) (pfv b m (p + 1) (10 * v + b p - 48)) (v, p)
theorem pfv_s {b : Int → Int} {m : Nat} {p v : Int} : pfv b (m + 1) p v = cif (pdg (b p)) (pfv b m (p + 1) (10 * v + b p - 48)) (v, p) := rfl
theorem pfv_b {b : Int → Int} : ∀ {m : Nat} {p v : Int}, 0 ≤ v → v ≤ (pfv b m p v).1 ∧ (pfv b m p v).1 + 1 ≤ (v + 1) * 10 ^ m ∧ p ≤ (pfv b m p v).2 ∧ (pfv b m p v).2 ≤ p + m
  | 0, p, v, h => by unfold pfv; simp
  | m + 1, p, v, h => by
    rw [pfv_s]
    by_cases q : pdg (b p)
    · rw [cif_t q]
      unfold pdg at q
      have ih := pfv_b (b := b) (m := m) (p := p + 1) (v := 10 * v + b p - 48) (by omega)
      have hp : (0 : Int) < 10 ^ m := Int.pow_pos (by decide)
      have e : (v + 1) * 10 ^ (m + 1) = (10 * v + 10) * 10 ^ m := by rw [Int.pow_succ, Int.mul_comm (10 ^ m) 10, ← Int.mul_assoc]; congr 1; omega
      have : (10 * v + b p - 48 + 1) * 10 ^ m ≤ (10 * v + 10) * 10 ^ m := Int.mul_le_mul_of_nonneg_right (by omega) (by omega)
      rw [e]
      omega
    · rw [cif_f q]
      have hp : (1 : Int) ≤ 10 ^ (m + 1) := by
        have : (0 : Int) < 10 ^ (m + 1) := Int.pow_pos (by decide)
        omega
      have : (v + 1) * 1 ≤ (v + 1) * 10 ^ (m + 1) := Int.mul_le_mul_of_nonneg_left hp (by omega)
      dsimp only
      omega
theorem pfv_n {t : Int → Int} {n : Int} : ∀ {m : Nat} {p v : Int}, p ≤ n → (pfv (pbt t n) m p v).2 ≤ n
  | 0, p, v, h => h
  | m + 1, p, v, h => by
    rw [pfv_s]
    by_cases q : pdg (pbt t n p)
    · rw [cif_t q]
      refine pfv_n ?_
      unfold pdg pbt at q
      split at q <;> omega
    · rw [cif_f q]; exact h
theorem pbt_in {t : Int → Int} {n p : Int} (h : ¬ pbt t n p = -1) : 0 ≤ p ∧ p < n := by
  unfold pbt at h
  split at h
  · assumption
  · exact absurd rfl h
theorem zset_zset (M : zM) (a i x y : Int) : zset (zset M a i x) a i y = zset M a i y := by
  funext b j
  unfold zset
  split
  · rfl
  · rfl
def pjo (P : zM) (v w : Int) : Prop := ∃ l, (0 ≤ l ∧ l < P 4 2) ∧ ((P 6 l = v ∧ P 7 l = w) ∨ (P 6 l = w ∧ P 7 l = v))
def php (P : zM) (v : Int) : Prop := (0 ≤ v ∧ v < 16) ∧ tbs (P 4 0) v
noncomputable def ppl (b : Int → Int) (p : Int) (P : zM) : Option zM × Int :=
  cif (¬ ((0 ≤ b p - 97 ∧ b p - 97 < 16) ∧ ¬ tbs (P 4 0) (b p - 97))) (none, p)
  (cif (b (p + 1) = 59)
    (cif (pcard (P 4 1) < 4) (some (zset (zset P 4 0 (zor (P 4 0) (zshl 1 (b p - 97)))) 4 1 (zor (P 4 1) (zshl 1 (b p - 97)))), p + 2) (none, p + 1))
    (cif (¬ pdg (b (p + 1))) (none, p + 1)
      (cif (b (pfv b 2 (p + 1) 0).2 = 59) (some (zset (zset P 4 0 (zor (P 4 0) (zshl 1 (b p - 97)))) 5 (b p - 97) (pfv b 2 (p + 1) 0).1), (pfv b 2 (p + 1) 0).2 + 1) (none, (pfv b 2 (p + 1) 0).2))))
/-- the net with one line more -/
noncomputable def paL (P : zM) (v w r m s : Int) (c : Prop) : zM := zset (zset (zset (zset (zset (zset (zset P 6 (P 4 2) v) 7 (P 4 2) w) 8 (P 4 2) r) 9 (P 4 2) m) 20 (P 4 2) s) 4 3 (cif c (zor (P 4 3) (zshl 1 (P 4 2))) (P 4 3))) 4 2 (P 4 2 + 1)
noncomputable def pnl (b : Int → Int) (p : Int) (P : zM) (c : Prop) : Option zM × Int :=
  cif (¬ P 4 2 < 24) (none, p)
  (cif (¬ php P (b (p + 1) - 97)) (none, p + 1)
  (cif (¬ (php P (b (p + 2) - 97) ∧ ¬ b (p + 2) - 97 = b (p + 1) - 97 ∧ ¬ pjo P (b (p + 1) - 97) (b (p + 2) - 97))) (none, p + 2)
  (cif (b (p + 3) = 48 ∨ ¬ pdg (b (p + 3))) (none, p + 3)
  (cif (¬ b (pfv b 2 (p + 3) 0).2 = 44) (none, (pfv b 2 (p + 3) 0).2)
  (cif (¬ pdg (b ((pfv b 2 (p + 3) 0).2 + 1))) (none, (pfv b 2 (p + 3) 0).2 + 1)
  (cif (¬ b (pfv b 3 ((pfv b 2 (p + 3) 0).2 + 1) 0).2 = 59) (none, (pfv b 3 ((pfv b 2 (p + 3) 0).2 + 1) 0).2)
  (some (paL P (b (p + 1) - 97) (b (p + 2) - 97) (pfv b 2 (p + 3) 0).1 (pfv b 3 ((pfv b 2 (p + 3) 0).2 + 1) 0).1 p c), (pfv b 3 ((pfv b 2 (p + 3) 0).2 + 1) 0).2 + 1)))))))
noncomputable def pit (b : Int → Int) (p : Int) (P : zM) : Option zM × Int := cif (b p = 43) (pnl b p P True) (cif (b p = 45) (pnl b p P False) (ppl b p P))
section RD
variable {Q : Int → zM → Prop} {M : zM}
/-- the class's reader is at work: its text, where it stands -/
def zra (M : zM) : Prop := M 78 3 = 3 ∧ (0 ≤ M 78 4 ∧ M 78 4 ≤ 200) ∧ 0 ≤ M 78 5 ∧ M 78 5 ≤ M 78 4 ∧ (∀ i, 0 ≤ i → i < M 78 4 → 0 ≤ M 3 i ∧ M 3 i ≤ 127)
theorem pbt_b {t : Int → Int} {n p : Int} (h : ∀ i, 0 ≤ i → i < n → 0 ≤ t i ∧ t i ≤ 127) : -1 ≤ pbt t n p ∧ pbt t n p ≤ 127 := by
  unfold pbt
  split
  · rename_i q; have := h p q.1 q.2; omega
  · omega
theorem c38 (hR : zra M) (hQ : Q (pbt (M 3) (M 78 4) (M 78 5)) M) : zF 38 Q [(2, 78)] M := by
  obtain ⟨r1, r2, r3, r4, _⟩ := hR
  unfold pbt at hQ
  refine s38_0 ⟨r1, fun q => by omega, fun _ => ⟨fun q => ?_, fun q => ⟨fun _ => ⟨by omega, ?_⟩, fun z => by omega⟩⟩⟩
  · rwa [if_neg (by omega)] at hQ
  · rwa [if_pos ⟨r3, q⟩] at hQ
theorem zra_s {q : Int} (hR : zra M) (hq : 0 ≤ q ∧ q ≤ M 78 4) : zra (zset M 78 5 q) := by
  obtain ⟨r1, r2, r3, r4, r5⟩ := hR
  refine ⟨by rw [zrow_s, fset_o _ (by decide)]; exact r1, by rw [zrow_s, fset_o _ (by decide)]; exact r2, by rw [zrow_s, fset_s]; exact hq.1, by rw [zrow_s, fset_s, fset_o _ (by decide)]; exact hq.2, ?_⟩
  rw [zrow_s, fset_o _ (by decide), zrow_o _ (by decide)]
  exact r5
theorem zra_b {q : Int} : pbt (zset M 78 5 q 3) (zset M 78 5 q 78 4) = pbt (M 3) (M 78 4) := by rw [zrow_o _ (by decide), zrow_s, fset_o _ (by decide)]
theorem zra_5 {q : Int} : zset M 78 5 q 78 5 = q := by rw [zrow_s, fset_s]
theorem c37 {c : Int} (hR : zra M) (hc : 0 ≤ c) (h0 : ¬ pbt (M 3) (M 78 4) (M 78 5) = c → Q 0 M) (h1 : pbt (M 3) (M 78 4) (M 78 5) = c → zra (zset M 78 5 (M 78 5 + 1)) → Q 1 (zset M 78 5 (M 78 5 + 1))) : zF 37 Q [(2, 78), (0, c)] M := by
  refine s37_0 (c38 hR ⟨fun q => ?_, fun q => h0 q⟩)
  have hi := pbt_in (t := M 3) (n := M 78 4) (p := M 78 5) (by omega)
  have := hR.2.1
  rw [zw_id (by omega)]
  exact h1 q (zra_s hR (by omega))
/-- figures: one at least, m at most -/
theorem c36 {m : Nat} (hR : zra M) (hm : m = 2 ∨ m = 3) (h0 : ¬ pdg (pbt (M 3) (M 78 4) (M 78 5)) → Q (-1) M) (h1 : pdg (pbt (M 3) (M 78 4) (M 78 5)) → zra (zset M 78 5 (pfv (pbt (M 3) (M 78 4)) m (M 78 5) 0).2) → Q (pfv (pbt (M 3) (M 78 4)) m (M 78 5) 0).1 (zset M 78 5 (pfv (pbt (M 3) (M 78 4)) m (M 78 5) 0).2)) : zF 36 Q [(2, 78), (0, (m : Int))] M := by
  have hn := hR.2.1
  have key : ∀ (j i : Nat) (p v : Int), i + j = m → 0 < i → M 78 5 ≤ p → p ≤ M 78 4 → 0 ≤ v → (v + 1) * 10 ^ j ≤ 1000 → pfv (pbt (M 3) (M 78 4)) j p v = pfv (pbt (M 3) (M 78 4)) m (M 78 5) 0 → pdg (pbt (M 3) (M 78 4) (M 78 5)) → zS 36 Q 4 [(2, 78), (0, (m : Int)), (0, v), (0, (i : Int)), (3, 0)] [] (zset M 78 5 p) := by
    intro j
    induction j with
    | zero =>
      intro i p v hi hi0 hp hp2 hv hb e hd
      refine s36_4 ⟨fun _ => ?_, fun q => by omega⟩
      have e' : (v, p) = pfv (pbt (M 3) (M 78 4)) m (M 78 5) 0 := e
      have e1 : v = (pfv (pbt (M 3) (M 78 4)) m (M 78 5) 0).1 := by rw [← e']
      have e2 : p = (pfv (pbt (M 3) (M 78 4)) m (M 78 5) 0).2 := by rw [← e']
      rw [e2] at hp2 ⊢
      rw [e1]
      exact h1 hd (zra_s hR (by have := hR.2.2.1; omega))
    | succ j ih =>
      intro i p v hi hi0 hp hp2 hv hb e hd
      have hR' : zra (zset M 78 5 p) := zra_s hR (by have := hR.2.2.1; omega)
      have stop : ¬ pdg (pbt (M 3) (M 78 4) p) → Q v (zset M 78 5 p) := fun z => by
        rw [pfv_s, cif_f z] at e
        have e1 : v = (pfv (pbt (M 3) (M 78 4)) m (M 78 5) 0).1 := by rw [← e]
        have e2 : p = (pfv (pbt (M 3) (M 78 4)) m (M 78 5) 0).2 := by rw [← e]
        rw [e2] at hp2 ⊢
        rw [e1]
        exact h1 hd (zra_s hR (by have := hR.2.2.1; omega))
      refine s36_4 ⟨fun q => by omega, fun _ => c38 hR' ?_⟩
      rw [zra_b, zra_5]
      refine ⟨fun q => stop (fun z => by unfold pdg at z; omega), fun q => ⟨fun q2 => ⟨fun q3 => ?_, fun q3 => by omega⟩, fun q2 => stop (fun z => by unfold pdg at z; omega)⟩⟩
      have hdg : pdg (pbt (M 3) (M 78 4) p) := ⟨by omega, by omega⟩
      have hi2 := pbt_in (t := M 3) (n := M 78 4) (p := p) (by unfold pdg at hdg; omega)
      have hj1 : (1 : Int) ≤ 10 ^ j := by
        have : (0 : Int) < 10 ^ j := Int.pow_pos (by decide)
        omega
      have e10 : (v + 1) * 10 ^ (j + 1) = (10 * v + 10) * 10 ^ j := by rw [Int.pow_succ, Int.mul_comm (10 ^ j) 10, ← Int.mul_assoc]; congr 1; omega
      have hle : (10 * v + pbt (M 3) (M 78 4) p - 48 + 1) * 10 ^ j ≤ (10 * v + 10) * 10 ^ j := Int.mul_le_mul_of_nonneg_right (by omega) (by omega)
      have hle2 : (10 * v + 10) * 1 ≤ (10 * v + 10) * 10 ^ j := Int.mul_le_mul_of_nonneg_left hj1 (by omega)
      rw [zw_id (x := 10 * v) (by omega), zw_id (x := 10 * v + pbt (M 3) (M 78 4) p) (by omega), zw_id (by omega), zw_id (x := (i : Int) + 1) (by omega), zw_id (x := p + 1) (by omega), zset_zset]
      refine ih (i + 1) (p + 1) _ (by omega) (by omega) (by omega) (by omega) (by omega) (by omega) ?_ hd
      rw [pfv_s, cif_t hdg] at e
      exact e
  have e0 : zset M 78 5 (M 78 5) = M := zset_id M 78 5
  refine s36_0 (s36_4 ⟨fun q => by omega, fun _ => c38 hR ⟨fun q => h0 (fun z => by unfold pdg at z; omega), fun q => ⟨fun q2 => ⟨fun q3 => absurd rfl q3, fun _ => ?_⟩, fun q2 => h0 (fun z => by unfold pdg at z; omega)⟩⟩⟩)
  have hdg : pdg (pbt (M 3) (M 78 4) (M 78 5)) := ⟨by omega, by omega⟩
  have hi2 := pbt_in (t := M 3) (n := M 78 4) (p := M 78 5) (by unfold pdg at hdg; omega)
  rw [zw_id (x := 0 + pbt (M 3) (M 78 4) (M 78 5)) (by omega), zw_id (by omega), zw_id (x := 0 + 1) (by omega), zw_id (x := M 78 5 + 1) (by omega)]
  obtain ⟨m', rfl⟩ : ∃ m', m = m' + 1 := ⟨m - 1, by omega⟩
  refine key m' 1 (M 78 5 + 1) _ (by omega) (by omega) (by omega) (by omega) (by omega) ?_ ?_ hdg
  · unfold pdg at hdg
    rcases hm with e | e
    · have : m' = 1 := by omega
      subst this; omega
    · have : m' = 2 := by omega
      subst this; omega
  · rw [pfv_s (m := m'), cif_t hdg]; congr 1
theorem c17 {v w : Int} (kw : zKT w = (2, 1)) (h0 : ¬ ((0 ≤ v ∧ v < 16) ∧ tbs (M w 0) v) → Q 0 M) (h1 : ((0 ≤ v ∧ v < 16) ∧ tbs (M w 0) v) → Q 1 M) : zF 17 Q [(2, w), (0, v)] M := by
  refine s17_0 kw ⟨fun q => h0 (fun z => by omega), fun q => ⟨fun q2 => h0 (fun z => by omega), fun q2 => ⟨fun q3 => h0 (fun z => (tbs_shr (by omega)).mp q3 z.2), fun q3 => h1 ⟨by omega, ?_⟩⟩⟩⟩
  rw [tbs_shr (by omega), Classical.not_not] at q3
  exact q3
theorem c18 {l w : Int} (kw : zKT w = (2, 1)) (h0 : ¬ (0 ≤ l ∧ l < M w 2) → Q 0 M) (h1 : (0 ≤ l ∧ l < M w 2) → Q 1 M) : zF 18 Q [(2, w), (0, l)] M :=
  s18_0 kw ⟨fun q => h0 (fun z => by omega), fun q => ⟨fun q2 => h0 (fun z => by omega), fun q2 => h1 (by omega)⟩⟩
theorem c23 {v u w : Int} (kw : zKT w = (2, 1)) (hm : 0 ≤ M w 2 ∧ M w 2 ≤ 24)
    (h0 : (∀ l, 0 ≤ l → l < M w 2 → ¬ ((M (w + 2) l = v ∧ M (w + 3) l = u) ∨ (M (w + 2) l = u ∧ M (w + 3) l = v))) → Q (-1) M)
    (h1 : ∀ l, 0 ≤ l → l < M w 2 → ((M (w + 2) l = v ∧ M (w + 3) l = u) ∨ (M (w + 2) l = u ∧ M (w + 3) l = v)) → (∀ i, 0 ≤ i → i < l → ¬ ((M (w + 2) i = v ∧ M (w + 3) i = u) ∨ (M (w + 2) i = u ∧ M (w + 3) i = v))) → Q l M) : zF 23 Q [(2, w), (0, v), (0, u)] M := by
  have key : ∀ (n k : Nat), ((k : Nat) : Int) + n = M w 2 → (∀ i, 0 ≤ i → i < (k : Int) → ¬ ((M (w + 2) i = v ∧ M (w + 3) i = u) ∨ (M (w + 2) i = u ∧ M (w + 3) i = v))) → zS 23 Q 2 [(2, w), (0, v), (0, u), (0, (k : Int))] [] M := by
    intro n
    induction n with
    | zero =>
      intro k hk hi
      exact s23_2 kw ⟨fun _ => h0 (fun l l0 l1 => hi l l0 (by omega)), fun q => by omega⟩
    | succ n ih =>
      intro k hk hi
      have skip : ¬ ((M (w + 2) k = v ∧ M (w + 3) k = u) ∨ (M (w + 2) k = u ∧ M (w + 3) k = v)) → zS 23 Q 2 [(2, w), (0, v), (0, u), (0, zw ((k : Int) + 1))] [] M := fun z => by
        rw [zw_id (by omega)]
        refine ih (k + 1) (by omega) (fun i i0 i1 => ?_)
        by_cases e : i = (k : Int)
        · rw [e]; exact z
        · exact hi i i0 (by omega)
      have got : ((M (w + 2) k = v ∧ M (w + 3) k = u) ∨ (M (w + 2) k = u ∧ M (w + 3) k = v)) → Q k M := fun z => h1 k (by omega) (by omega) z hi
      refine s23_2 kw ⟨fun q => by omega, fun _ => ⟨by omega, fun q => ⟨fun q2 => skip (fun z => ?_), fun q2 => ⟨fun q3 => skip (fun z => ?_), fun q3 => got (Or.inr ⟨q2, q3⟩)⟩⟩, fun q => ⟨fun q2 => got (Or.inl ⟨q, q2⟩), fun q2 => ⟨fun q3 => skip (fun z => ?_), fun q3 => ⟨fun q4 => skip (fun z => ?_), fun q4 => got (Or.inr ⟨q3, q4⟩)⟩⟩⟩⟩⟩
      · rcases z with z | z
        · exact q z.1
        · exact q2 z.1
      · rcases z with z | z
        · exact q z.1
        · exact q3 z.2
      · rcases z with z | z
        · exact q2 z.2
        · exact q3 z.1
      · rcases z with z | z
        · exact q2 z.2
        · exact q4 z.2
  exact s23_0 kw (key (M w 2).toNat 0 (by omega) (fun i a b => by omega))
end RD
