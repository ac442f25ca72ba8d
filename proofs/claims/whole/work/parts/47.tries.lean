/-! the reference's tries; the class's ring in pure words -/
theorem zLS_cg {M M' : zM} (h : zLS M) (hr : ∀ a, 126 ≤ a → a ≤ 148 → M' a = M a) (h3 : M' 123 3 = M 123 3) : zLS M' := by
  unfold zLS
  rw [h3, hr 126 (by omega) (by omega), hr 127 (by omega) (by omega), hr 128 (by omega) (by omega), hr 129 (by omega) (by omega), hr 132 (by omega) (by omega), hr 142 (by omega) (by omega), hr 143 (by omega) (by omega), hr 144 (by omega) (by omega), hr 145 (by omega) (by omega), hr 147 (by omega) (by omega), hr 148 (by omega) (by omega)]
  exact h
def mtr (M M' : zM) : Prop := ∀ a i : Int, ¬ (142 ≤ a ∧ a ≤ 148) → ¬ (a = 123 ∧ (i = 31 ∨ i = 54 ∨ i = 55)) → M' a i = M a i
theorem mtr_fr {M M' : zM} (h : mtr M M') : mfr M M' := fun a i p q => h a i (by omega) (by omega)
theorem mul_b {x y a b : Int} (hx : -a ≤ x ∧ x ≤ a) (hy : -b ≤ y ∧ y ≤ b) : -(a * b) ≤ x * y ∧ x * y ≤ a * b := by
  have ha : 0 ≤ a := by omega
  have hb : 0 ≤ b := by omega
  have pos : ∀ u v : Int, 0 ≤ u → u ≤ a → 0 ≤ v → v ≤ b → 0 ≤ u * v ∧ u * v ≤ a * b := fun u v u0 u1 v0 v1 => ⟨Int.mul_nonneg u0 v0, Int.mul_le_mul u1 v1 v0 ha⟩
  have hab : 0 ≤ a * b := Int.mul_nonneg ha hb
  rcases Int.lt_or_le x 0 with p | p <;> rcases Int.lt_or_le y 0 with q | q
  · have := pos (-x) (-y) (by omega) (by omega) (by omega) (by omega)
    rw [Int.neg_mul_neg] at this
    omega
  · have := pos (-x) y (by omega) (by omega) q hy.2
    rw [Int.neg_mul] at this
    omega
  · have := pos x (-y) p hx.2 (by omega) (by omega)
    rw [Int.mul_neg] at this
    omega
  · have := pos x y p hx.2 q hy.2
    omega
section TR
variable {N : zM} {S t : Int} {e0 : Int × Int} {M : zM} {Q : Int → zM → Prop}
theorem c118' (hW : pW N) (h : mN N S M) (hQ : ∀ M', zL7 M M' → mN N S M' → zLS M' → Q 0 M') : zF 118 Q [(2, 123)] M := c118 (mN_W hW h) (fun M' h1 h2 => hQ M' h1 (mN_fr h (mfr_7 h1)) h2)
theorem c141 (hW : pW N) (h : mN N S M) (hk : pok N S) (ht : 0 ≤ t ∧ t < N 4 2) (hd : M 132 t = 0) (h0 : e0 ∈ prg N S t) (hQ : ∀ M', mtr M M' → M' 123 54 = pls N (pex S t e0.1) → zmk (M' 123 55) (pov N (pex S t e0.1)) → (∃ fl ne, pX N (pex S t e0.1) fl ne) → Q 0 M') : zF 141 Q [(2, 123), (0, t), (0, e0.1)] M := by
  have hm := hW.1
  have hS0 := prg_S hk h0
  have hl1 := hk.1 _ hS0
  have hl0 := hS0.1.1
  have hx := pex_s hW hk ht h0
  have hk' := pok_x hW hk ht h0
  have hT := h.2.2 t ht.1 ht.2
  have hLe := h.2.2 e0.1 hl0 hl1
  have hnt : ¬ tbs S t := fun z => by have := hT.2.2.2.2.1.mp z; omega
  have htl : t ≠ e0.1 := fun z => hnt (by rw [z]; exact hS0)
  have hl132 : M 132 e0.1 = 1 := hLe.2.2.2.2.1.mp hS0
  refine s141_0 ⟨by omega, by omega, ?_⟩
  generalize hN1 : zset (zset M 132 t 1) 132 e0.1 0 = N1
  have nO : ∀ a, a ≠ 132 → N1 a = M a := fun a q => by rw [← hN1, zrow_o _ q, zrow_o _ q]
  have n132 : N1 132 = fset (fset (M 132) t 1) e0.1 0 := by rw [← hN1, zrow_s, zrow_s]
  have hmN : mN N (pex S t e0.1) N1 := by
    refine ⟨by rw [nO 123 (by decide)]; exact h.1, fun v a b => by rw [nO 126 (by decide), nO 127 (by decide)]; exact h.2.1 v a b, fun l a b => ?_⟩
    rw [nO 128 (by decide), nO 129 (by decide), nO 130 (by decide), nO 131 (by decide), n132, hx l]
    obtain ⟨w1, w2, w3, w4, w5, w6, w7, w8⟩ := h.2.2 l a b
    refine ⟨w1, w2, w3, w4, ?_⟩
    by_cases z : l = e0.1
    · rw [z, fset_s]
      have d : ¬ tbs (N 4 4) e0.1 := fun y => by have := hLe.2.2.2.2.2.1.mp y; omega
      exact ⟨⟨fun y => absurd rfl y.2, fun y => by omega⟩, ⟨fun y => absurd y d, fun y => by omega⟩, by omega, by omega⟩
    · rw [fset_o _ z]
      by_cases z2 : l = t
      · rw [z2, fset_s]
        have d : ¬ tbs (N 4 4) t := fun y => by have := hT.2.2.2.2.2.1.mp y; omega
        exact ⟨⟨fun _ => rfl, fun _ => ⟨Or.inr rfl, htl⟩⟩, ⟨fun y => absurd y d, fun y => by omega⟩, by omega, by omega⟩
      · rw [fset_o _ z2, ← w5]
        exact ⟨⟨fun y => y.1.elim id (fun e => absurd e z2), fun y => ⟨Or.inl y, z⟩⟩, w6, w7, w8⟩
  refine c118' hW hmN (fun M2 a1 a2 a3 => c120 hW a2 hk' a3 ?_)
  have mN4 : mN N (pex S t e0.1) (zset M2 123 54 (pls N (pex S t e0.1))) := mN_fr a2 (mfr_s mfr_r (by omega))
  have LS4 : zLS (zset M2 123 54 (pls N (pex S t e0.1))) := zLS_cg a3 (fun a p q => zrow_o _ (by omega)) (by rw [zrow_s, fset_o _ (by decide)])
  refine c121' hW mN4 hk' LS4 (fun r hr => ?_)
  refine hQ _ ?_ ?_ ?_ ⟨_, _, mN_X hW a2 hk'.1 a3⟩
  · intro a i p q
    by_cases z : a = 132
    · rw [z, zrow_s, zrow_s, zrow_o _ (by decide), zrow_o _ (by decide)]
      by_cases z1 : i = e0.1
      · rw [z1, fset_s, hl132]
      · rw [fset_o _ z1]
        by_cases z2 : i = t
        · rw [z2, fset_s, hd]
        · rw [fset_o _ z2, a1 132 i (by omega) (by omega), n132, fset_o _ z1, fset_o _ z2]
    · rw [zrow_o _ z, zrow_o _ z]
      have e1 : zset (zset M2 123 54 (pls N (pex S t e0.1))) 123 55 r a i = M2 a i := by
        unfold zset
        rw [if_neg (fun y => by omega), if_neg (fun y => by omega)]
      rw [e1, a1 a i (by omega) (by omega), nO a z]
  · rw [zrow_o _ (by decide), zrow_o _ (by decide), zrow_s, fset_o _ (by decide), zrow_s, fset_s]
  · rw [zrow_o _ (by decide), zrow_o _ (by decide), zrow_s, fset_s]
    exact hr
end TR
section RP
variable {Q : Int → zM → Prop} {M : zM} {f g : Int}
/-- a ring holds a list of lines and signed flows -/
def zrh (M : zM) (g : Int) (R : List (Int × Int)) : Prop := M g 0 = (R.length : Int) ∧ R.length ≤ 16 ∧ kro (M (g + 1)) 0 (R.map Prod.fst) ∧ kro (M (g + 2)) 0 (R.map Prod.snd)
theorem prs_b {N : zM} {S t : Int} {fl ne : Int → Int} (hW : pW N) (hk : pok N S) (hX : pX N S fl ne) {e : Int × Int} (he : e ∈ prs N S t) : (0 ≤ e.1 ∧ e.1 < N 4 2) ∧ -1584 ≤ e.2 ∧ e.2 ≤ 1584 := by
  have hm := hW.1
  unfold prs at he
  obtain ⟨x, x1, x2⟩ := List.mem_map.mp he
  have hs := prg_S hk x1
  have h1 := hk.1 _ hs
  have h0 := hs.1.1
  rw [← x2]
  dsimp only
  refine ⟨⟨h0, h1⟩, ?_⟩
  obtain ⟨L, rt, by', de, be, k1, k2⟩ := pX_p hX
  have a := kG_abs k1 k2 (l := x.1) h0 (by omega)
  have b := pfl_b hX (l := x.1) h0 (by omega)
  unfold ksg pG
  split <;> omega
theorem c50' {t : Int} (kf : zKT f = (2, 0)) (hf : f = 12 ∨ f = 100) (kg : zKT g = (2, 5)) (hW : zWC M) (hO : zFO M f) (hk : pok (pnet M) (M f 0)) (ht : 0 ≤ t ∧ t < M 4 2)
    (hQ : ∀ M', zfm g (g + 3) M M' → M' g 4 = t → zrh M' g (prs (pnet M) (M f 0) t) → Q 0 M') : zF 50 Q [(2, g), (2, 4), (2, f), (0, t)] M := by
  have hpW := pW_of hW
  refine c50 kf hf kg hW hO (fun l q => by have := hk.1 l q; rw [pnet_42] at this; exact this) ht (fun M' P h1 h2 h3 h4 h5 h6 h7 => hQ M' h1 h2 ?_)
  have e : prg (pnet M) (M f 0) t = P := by
    rcases h7 with q | ⟨q1, q2⟩
    · exact prg_of hk.2 (pok_ne hpW hk) (by rw [pnet_6, pnet_7, pnet_41]; exact q)
    · rw [q1]
      exact prg_no (by rw [pnet_6, pnet_7, pnet_41]; exact q2)
  unfold prs
  rw [e]
  refine ⟨by rw [List.length_map]; exact h3, by rw [List.length_map]; exact h4, ?_, ?_⟩
  · rw [List.map_map]
    exact h5
  · rw [List.map_map]
    have : P.map (Prod.snd ∘ fun e => (e.1, ksg (pnet M 6) (pG (pnet M) (M f 0)) e)) = P.map (ksg (M 6) (kG (M 6) (M 7) (M (f + 5)) (M (f + 6)))) := by
      refine List.map_congr_left (fun x hx => ?_)
      have hs := prg_S (t := t) hk (by rw [e]; exact hx)
      have h8 := hk.1 _ hs
      have h9 := hpW.1
      have h0 := hs.1.1
      have := zFO_fl hO hk.2 (l := x.1) h0 (by omega)
      show ksg (pnet M 6) (pG (pnet M) (M f 0)) x = _
      unfold ksg pG kG
      rw [pnet_6, pnet_7, this.1, this.2]
    rw [this]
    exact h6
/-- where a line stands on the ring -/
theorem c51 {l : Int} {R : List (Int × Int)} (kg : zKT g = (2, 5)) (hR : zrh M g R) (h0 : l ∉ R.map Prod.fst → Q (-1) M) (h1 : ∀ (i : Nat) (h : i < R.length), R[i].1 = l → Q i M) : zF 51 Q [(2, g), (0, l)] M := by
  obtain ⟨r1, r2, r3, r4⟩ := hR
  have at' : ∀ i : Nat, (h : i < R.length) → M (g + 1) i = R[i].1 := fun i h => by
    have := kro_at r3 i (by rw [List.length_map]; exact h)
    rw [Int.zero_add, List.getElem_map] at this
    exact this
  have key : ∀ (n k : Nat), k + n = R.length → (∀ (i : Nat) (h : i < R.length), i < k → ¬ R[i].1 = l) → zS 51 Q 2 [(2, g), (0, l), (0, (k : Int))] [] M := by
    intro n
    induction n with
    | zero =>
      intro k hk hi
      refine s51_2 kg ⟨fun _ => h0 (fun z => ?_), fun q => by omega⟩
      obtain ⟨e, e1, e2⟩ := List.mem_map.mp z
      obtain ⟨i, i1, i2⟩ := List.getElem_of_mem e1
      exact hi i i1 (by omega) (by rw [i2]; exact e2)
    | succ n ih =>
      intro k hk hi
      refine s51_2 kg ⟨fun q => by omega, fun _ => ⟨by omega, fun q => ?_, fun q => ?_⟩⟩
      · rw [zw_id (by omega)]
        refine ih (k + 1) (by omega) (fun i h hik => ?_)
        by_cases z : i = k
        · subst z; rw [← at' i h]; exact q
        · exact hi i h (by omega)
      · exact h1 k (by omega) (by rw [← at' k (by omega)]; exact q)
  exact s51_0 kg (key R.length 0 (by omega) (fun i _ h => by omega))
/-- the gain -/
theorem c52 {t : Int} {R : List (Int × Int)} (kg : zKT g = (2, 5)) (hW : zWC M) (ht : 0 ≤ t ∧ t < M 4 2) (h4 : M g 4 = t) (hR : zrh M g R) (hb : ∀ e, e ∈ R → (0 ≤ e.1 ∧ e.1 < M 4 2) ∧ -1584 ≤ e.2 ∧ e.2 ≤ 1584) {i : Nat} (hi : i < R.length) (hQ : Q (pgn (pnet M) R t R[i].2) M) : zF 52 Q [(2, g), (2, 4), (0, (i : Int))] M := by
  obtain ⟨r1, r2, r3, r4⟩ := hR
  obtain ⟨W1, W2, W3, W4, W5, W6⟩ := hW
  have hs : M (g + 2) i = R[i].2 := by
    have := kro_at r4 i (by rw [List.length_map]; exact hi)
    rw [Int.zero_add, List.getElem_map] at this
    exact this
  have hsb := hb R[i] (List.getElem_mem hi)
  generalize R[i].2 = s at *
  have hre := (W5 t ht.1 ht.2).2.1
  have m1 := mul_b (x := -M 8 t) (y := s) (a := 99) (b := 1584) (by omega) (by omega)
  have m2 := mul_b (x := -M 8 t * s) (y := s) (a := 156816) (b := 1584) (by omega) (by omega)
  have key : ∀ (B : List (Int × Int)) (k : Nat) (v5 : Int), (∀ e, e ∈ B → e ∈ R) → kro (M (g + 1)) k (B.map Prod.fst) → kro (M (g + 2)) k (B.map Prod.snd) → k + B.length = R.length → (-4000000000 * (k + 1 : Int) ≤ v5 ∧ v5 ≤ 4000000000 * (k + 1 : Int)) → Q (v5 + pgs (pnet M) B s) M → zS 52 Q 28 [(2, g), (2, 4), (0, (i : Int)), (1, s), (3, 0), (1, v5), (3, 0), (0, (k : Int)), (3, 0), (3, 0), (3, 0), (3, 0)] [] M := by
    intro B
    induction B with
    | nil =>
      intro k v5 h1 h2 h3 h5 h6 h7
      refine s52_28 kg ⟨fun _ => ?_, fun q => ?_⟩
      · unfold pgs at h7; rw [Int.add_zero] at h7; exact h7
      · simp only [List.length_nil] at h5; omega
    | cons e B ih =>
      intro k v5 h1 h2 h3 h5 h6 h7
      simp only [List.length_cons] at h5
      obtain ⟨e1, e2⟩ := hb e (h1 e List.mem_cons_self)
      have h2' := h2.1
      have h3' := h3.1
      have hre' := (W5 e.1 e1.1 e1.2).2.1
      refine s52_28 kg ⟨fun q => by omega, fun _ => ⟨by omega, by rw [h2']; omega, ?_⟩⟩
      rw [h2', h3']
      have p1 := mul_b (x := e.2) (y := e.2) (a := 1584) (b := 1584) e2 e2
      have p2 := mul_b (x := e.2 - s) (y := e.2 - s) (a := 3168) (b := 3168) (by omega) (by omega)
      have p3 := mul_b (x := M 8 e.1) (y := e.2 * e.2 - (e.2 - s) * (e.2 - s)) (a := 99) (b := 13000000) (by omega) (by omega)
      rw [zW_id (x := e.2 * e.2) (by omega), zW_id (x := e.2 - s) (by omega), zW_id (x := (e.2 - s) * (e.2 - s)) (by omega), zW_id (x := e.2 * e.2 - (e.2 - s) * (e.2 - s)) (by omega), zW_id (x := M 8 e.1 * (e.2 * e.2 - (e.2 - s) * (e.2 - s))) (by omega), zW_id (by omega), zw_id (x := (k : Int) + 1) (by omega)]
      refine ih (k + 1) _ (fun x hx => h1 x (List.mem_cons_of_mem _ hx)) h2.2 h3.2 (by omega) (by omega) ?_
      unfold pgs at h7
      rw [pnet_8, ← Int.add_assoc] at h7
      exact h7
  refine s52_0 kg ⟨by omega, by rw [h4]; omega, ?_⟩
  rw [h4, hs, zw_id (x := -M 8 t) (by omega), zW_id (x := -M 8 t * s) (by omega), zW_id (by omega)]
  refine key R 0 _ (fun e he => he) r3 r4 (by omega) (by omega) ?_
  unfold pgn at hQ
  rw [pnet_8] at hQ
  exact hQ
/-- whether it bears -/
theorem c53 {t : Int} {R : List (Int × Int)} (kg : zKT g = (2, 5)) (hW : zWC M) (ht : 0 ≤ t ∧ t < M 4 2) (h4 : M g 4 = t) (hR : zrh M g R) (hb : ∀ e, e ∈ R → (0 ≤ e.1 ∧ e.1 < M 4 2) ∧ -1584 ≤ e.2 ∧ e.2 ≤ 1584) {i : Nat} (hi : i < R.length) (h0 : ¬ pmy (pnet M) R t R[i].2 → Q 0 M) (h1 : pmy (pnet M) R t R[i].2 → Q 1 M) : zF 53 Q [(2, g), (2, 4), (0, (i : Int))] M := by
  obtain ⟨r1, r2, r3, r4⟩ := hR
  obtain ⟨W1, W2, W3, W4, W5, W6⟩ := hW
  have hs : M (g + 2) i = R[i].2 := by
    have := kro_at r4 i (by rw [List.length_map]; exact hi)
    rw [Int.zero_add, List.getElem_map] at this
    exact this
  have hsb := hb R[i] (List.getElem_mem hi)
  generalize R[i].2 = s at *
  have habs : ∀ x y : Int, -4000 ≤ x ∧ x ≤ 4000 → (y < (if 0 ≤ x then x else zw (0 - x)) ↔ ¬ (x ≤ y ∧ -x ≤ y)) := fun x y hx => by
    by_cases q : 0 ≤ x
    · rw [if_pos q]; omega
    · rw [if_neg q, zw_id (by omega)]; omega
  unfold pmy at h0 h1
  rw [pnet_9] at h0 h1
  have key : (s ≤ M 9 t ∧ -s ≤ M 9 t) → ∀ (B A : List (Int × Int)) (k : Nat), R = A ++ B → k = A.length → (∀ e, e ∈ A → ((e.2 - s ≤ M 9 e.1 ∧ -(e.2 - s) ≤ M 9 e.1) ∨ ¬ (e.2 ≤ M 9 e.1 ∧ -e.2 ≤ M 9 e.1))) → kro (M (g + 1)) k (B.map Prod.fst) → kro (M (g + 2)) k (B.map Prod.snd) → zS 53 Q 28 [(2, g), (2, 4), (0, (i : Int)), (0, s), (0, (k : Int)), (3, 0)] [] M := by
    intro hts B
    induction B with
    | nil =>
      intro A k hA hk hd h2 h3
      rw [List.append_nil] at hA
      refine s53_28 kg ⟨fun _ => h1 ⟨hts, by rw [hA]; exact hd⟩, fun q => ?_⟩
      rw [r1, hA] at q; omega
    | cons e B ih =>
      intro A k hA hk hd h2 h3
      have hlen : R.length = A.length + (B.length + 1) := by rw [hA, List.length_append, List.length_cons]
      have heR : e ∈ R := by rw [hA]; exact List.mem_append_right _ List.mem_cons_self
      obtain ⟨e1, e2⟩ := hb e heR
      have h2' := h2.1
      have h3' := h3.1
      have hA2 : R = (A ++ [e]) ++ B := by rw [hA]; simp
      have go : ((e.2 - s ≤ M 9 e.1 ∧ -(e.2 - s) ≤ M 9 e.1) ∨ ¬ (e.2 ≤ M 9 e.1 ∧ -e.2 ≤ M 9 e.1)) → zS 53 Q 28 [(2, g), (2, 4), (0, (i : Int)), (0, s), (0, zw ((k : Int) + 1)), (3, 0)] [] M := fun z => by
        rw [zw_id (by omega)]
        refine ih (A ++ [e]) (k + 1) hA2 (by rw [List.length_append, List.length_singleton, hk]) (fun x hx => ?_) h2.2 h3.2
        rcases List.mem_append.mp hx with y | y
        · exact hd x y
        · rw [List.mem_singleton] at y; rw [y]; exact z
      refine s53_28 kg ⟨fun q => by omega, fun _ => ⟨by omega, by rw [h2']; omega, ?_⟩⟩
      rw [h2', h3', zw_id (x := e.2 - s) (by omega)]
      refine ⟨fun q => go (Or.inl ?_), fun q => ⟨fun q2 => go (Or.inr ((habs _ _ (by omega)).mp q2)), fun q2 => h0 (fun z => ?_)⟩⟩
      · exact Classical.byContradiction fun y => q ((habs _ _ (by omega)).mpr y)
      · rcases z.2 e heR with y | y
        · exact (habs _ _ (by omega)).mp q y
        · exact q2 ((habs _ _ (by omega)).mpr y)
  refine s53_0 kg ⟨by omega, by rw [h4]; omega, ?_⟩
  rw [h4, hs]
  refine ⟨fun q => key ?_ R [] 0 rfl rfl (fun e he => by cases he) r3 r4, fun q => h0 (fun z => (habs _ _ (by omega)).mp q z.1)⟩
  exact Classical.byContradiction fun y => q ((habs _ _ (by omega)).mpr y)
end RP
