/-! an exchange in pure words -/
def zls (g : Int → Int) : List Int → Int
  | [] => 0
  | x :: L => g x + zls g L
theorem zls_cg {g g' : Int → Int} : ∀ {L : List Int}, (∀ x, x ∈ L → g x = g' x) → zls g L = zls g' L
  | [], _ => rfl
  | x :: L, h => by
    unfold zls
    rw [h x List.mem_cons_self, zls_cg (fun y hy => h y (List.mem_cons_of_mem _ hy))]
theorem zsum_list {m : Nat} : ∀ {L : List Int} {g : Int → Int}, L.Nodup → (∀ l, l ∈ L → 0 ≤ l ∧ l < m) → (∀ i : Nat, i < m → (i : Int) ∉ L → g i = 0) → zsum g m = zls g L
  | [], g, _, _, h => zsum_0 m (fun i hi => h i hi (by simp))
  | x :: L, g, hn, hb, h => by
    rw [List.nodup_cons] at hn
    have hx := hb x List.mem_cons_self
    have e := zsum_ch (f := g) (g := fun i => if i = x then 0 else g i) m x.toNat (by omega) (fun i hi q => by
      show g i = if ((i : Nat) : Int) = x then 0 else g i
      rw [if_neg (by omega)])
    have ex : ((x.toNat : Nat) : Int) = x := by omega
    rw [ex, if_pos rfl, Int.sub_zero] at e
    rw [e, zsum_list (L := L) hn.2 (fun l hl => hb l (List.mem_cons_of_mem _ hl)) (fun i hi q => ?_)]
    · rw [zls_cg (g := fun i => if i = x then 0 else g i) (g' := g) (fun y hy => if_neg (fun z => hn.1 (by rw [← z]; exact hy)))]
      show zls g L + g x = g x + zls g L
      omega
    · by_cases z : (i : Int) = x
      · rw [if_pos z]
      · rw [if_neg z]
        exact h i hi (by simp [z, q])
theorem zbear {a b : Int} {p q : Int → Prop} (ha : zmk a p) (hb : zmk b q) : zand a (zxor b (-1)) = 0 ↔ ∀ i, 0 ≤ i → i < 32 → p i → q i := by
  have h := zmk_and ha (zmk_not hb)
  constructor
  · intro e i h0 h1 hp
    refine Classical.byContradiction fun z => ?_
    have := (h.2 i h0 h1).mpr ⟨hp, z⟩
    rw [e, tb_0] at this
    cases this
  · intro e
    exact zmk_u h zmk_0 (fun i h0 h1 => ⟨fun z => z.2 (e i h0 h1 z.1), fun z => z.elim⟩)
theorem sq_pm {x y : Int} (h : x = y ∨ x = - y) : x * x = y * y := by
  rcases h with h | h
  · rw [h]
  · rw [h, Int.neg_mul_neg]
section XP
variable {N : zM} {S t : Int} {e0 : Int × Int} {fl ne fl2 ne2 : Int → Int}
theorem pW_l (hW : pW N) {l : Int} (h0 : 0 ≤ l) (h1 : l < N 4 2) : (0 ≤ l ∧ l < 24) ∧ (0 ≤ N 6 l ∧ N 6 l < 16) ∧ (0 ≤ N 7 l ∧ N 7 l < 16) ∧ ¬ N 6 l = N 7 l := by
  have a := hW.1
  have b := (hW.2.2.2.2 l h0 h1).1
  exact ⟨by omega, b.1, b.2.1, b.2.2.1⟩
theorem pok_ne (hW : pW N) (hk : pok N S) : ∀ l, tbs S l → ¬ N 6 l = N 7 l := fun l hl => (pW_l hW hl.1.1 (hk.1 l hl)).2.2.2
theorem prg_S (hk : pok N S) (h0 : e0 ∈ prg N S t) : tbs S e0.1 := (kP_S (prg_r h0).1 e0 h0).1
theorem pex_s (hW : pW N) (hk : pok N S) (ht : 0 ≤ t ∧ t < N 4 2) (h0 : e0 ∈ prg N S t) : ∀ l, tbs (pex S t e0.1) l ↔ (tbs S l ∨ l = t) ∧ l ≠ e0.1 := by
  have := hW.1
  have h1 := prg_S hk h0
  exact pex_b (by omega) h1.1
theorem pok_x (hW : pW N) (hk : pok N S) (ht : 0 ≤ t ∧ t < N 4 2) (h0 : e0 ∈ prg N S t) : pok N (pex S t e0.1) := by
  have hx := pex_s hW hk ht h0
  have hR := prg_r h0
  refine ⟨fun l hl => ?_, kx_rad hk.2 hR.1 hR.2 h0 hx⟩
  rcases ((hx l).mp hl).1 with q | q
  · exact hk.1 l q
  · rw [q]; exact ht.2
theorem px_fl (hW : pW N) (hk : pok N S) (ht : 0 ≤ t ∧ t < N 4 2) (hn : ¬ tbs S t) (h0 : e0 ∈ prg N S t) (hX : pX N S fl ne) (hX2 : pX N (pex S t e0.1) fl2 ne2) :
    (∀ e, e ∈ prg N S t → (pfl N (pex S t e0.1) e.1 = ksg (N 6) (pG N S) e - ksg (N 6) (pG N S) e0 ∨ pfl N (pex S t e0.1) e.1 = -(ksg (N 6) (pG N S) e - ksg (N 6) (pG N S) e0)) ∧ (pfl N S e.1 = ksg (N 6) (pG N S) e ∨ pfl N S e.1 = - ksg (N 6) (pG N S) e))
    ∧ (pfl N (pex S t e0.1) t = ksg (N 6) (pG N S) e0 ∨ pfl N (pex S t e0.1) t = - ksg (N 6) (pG N S) e0) ∧ pfl N S t = 0
    ∧ (∀ l, 0 ≤ l → l < 24 → l ∉ kls (prg N S t) → l ≠ t → pfl N (pex S t e0.1) l = pfl N S l) := by
  have hx := pex_s hW hk ht h0
  have hR := prg_r h0
  obtain ⟨L, rt, by', de, be, k1, k2⟩ := pX_p hX
  obtain ⟨L', rt', by2, de', be', q1, q2⟩ := pX_p hX2
  refine kx_fl hk.2 (fun l hl => ?_) hn hR.1 hR.2 h0 hx k1 q1 k2 q2
  rcases hl with hl | hl
  · exact pW_l hW hl.1.1 (hk.1 l hl)
  · rw [hl]; exact pW_l hW ht.1 ht.2
theorem pgs_ls {fl fl2 sg : Int → Int} {s : Int} {g : Int × Int → Int} : ∀ {P : List (Int × Int)}, (∀ e, e ∈ P → (fl2 e.1 = g e - s ∨ fl2 e.1 = -(g e - s)) ∧ (fl e.1 = g e ∨ fl e.1 = - g e)) → zls (fun l => N 8 l * fl l * fl l - N 8 l * fl2 l * fl2 l) (kls P) = pgs N (P.map (fun e => (e.1, g e))) s
  | [], _ => rfl
  | e :: P, h => by
    have h1 := h e List.mem_cons_self
    have e1 := sq_pm h1.1
    have e2 := sq_pm h1.2
    unfold kls
    rw [List.map_cons, List.map_cons]
    unfold zls pgs
    have ih := pgs_ls (sg := sg) (P := P) (fun x hx => h x (List.mem_cons_of_mem _ hx))
    unfold kls at ih
    rw [ih]
    dsimp only
    rw [Int.mul_assoc, Int.mul_assoc, e1, e2, ← Int.mul_sub]
/-- the gain -/
theorem px_gain (hW : pW N) (hk : pok N S) (ht : 0 ≤ t ∧ t < N 4 2) (hn : ¬ tbs S t) (h0 : e0 ∈ prg N S t) (hX : pX N S fl ne) (hX2 : pX N (pex S t e0.1) fl2 ne2) : pls N S - pls N (pex S t e0.1) = pgn N (prs N S t) t (ksg (N 6) (pG N S) e0) := by
  obtain ⟨f1, f2, f3, f4⟩ := px_fl hW hk ht hn h0 hX hX2
  have hR := prg_r h0
  have hm := hW.1
  have htP : t ∉ kls (prg N S t) := fun z => by
    obtain ⟨e, e1, e2⟩ := List.mem_map.mp z
    exact hn (by rw [← e2]; exact (kP_S hR.1 e e1).1)
  have hmem : ∀ l, l ∈ kls (prg N S t) → 0 ≤ l ∧ l < N 4 2 := fun l hl => by
    obtain ⟨e, e1, e2⟩ := List.mem_map.mp hl
    have := (kP_S hR.1 e e1).1
    rw [e2] at this
    exact ⟨this.1.1, hk.1 l this⟩
  unfold pls
  rw [← zsum_sub, zsum_list (L := t :: kls (prg N S t)) (List.nodup_cons.mpr ⟨htP, hR.2⟩) (fun l hl => ?_) (fun i hi q => ?_)]
  · unfold zls pgn prs
    rw [pgs_ls (sg := fun _ => 0) (g := ksg (N 6) (pG N S)) (s := ksg (N 6) (pG N S) e0) f1]
    have e := sq_pm f2
    rw [f3, Int.mul_zero, Int.mul_assoc (N 8 t), e, Int.neg_mul, Int.neg_mul, Int.mul_assoc]
    omega
  · rcases List.mem_cons.mp hl with q | q
    · rw [q]; omega
    · have := hmem l q; omega
  · rw [f4 i (by omega) (by omega) (fun z => q (List.mem_cons_of_mem _ z)) (fun z => q (by rw [z]; exact List.mem_cons_self))]
    omega
/-- whether it bears -/
theorem px_may (hW : pW N) (hk : pok N S) (ht : 0 ≤ t ∧ t < N 4 2) (hn : ¬ tbs S t) (h0 : e0 ∈ prg N S t) (hX : pX N S fl ne) (hX2 : pX N (pex S t e0.1) fl2 ne2) : (∀ l, 0 ≤ l → l < 32 → pov N (pex S t e0.1) l → pov N S l) ↔ pmy N (prs N S t) t (ksg (N 6) (pG N S) e0) := by
  obtain ⟨f1, f2, f3, f4⟩ := px_fl hW hk ht hn h0 hX hX2
  have hR := prg_r h0
  have hm := hW.1
  have hlim : ∀ l, 0 ≤ l → l < N 4 2 → 0 ≤ N 9 l := fun l a b => (hW.2.2.2.2 l a b).2.2.1
  have hmem : ∀ e, e ∈ prg N S t → 0 ≤ e.1 ∧ e.1 < N 4 2 := fun e he => by
    have := (kP_S hR.1 e he).1
    exact ⟨this.1.1, hk.1 _ this⟩
  have b1 := fun l a b => pfl_b hX (l := l) a b
  have b2 := fun l a b => pfl_b hX2 (l := l) a b
  unfold pov pmy prs
  constructor
  · intro h
    refine ⟨?_, fun e he => ?_⟩
    · have := h t ht.1 (by omega)
      have := hlim t ht.1 ht.2
      have := b2 t ht.1 (by omega)
      omega
    · obtain ⟨x, x1, x2⟩ := List.mem_map.mp he
      have hx := hmem x x1
      have := h x.1 hx.1 (by omega)
      have p := f1 x x1
      have := b1 x.1 hx.1 (by omega)
      have := b2 x.1 hx.1 (by omega)
      rw [← x2]
      dsimp only
      omega
  · rintro ⟨h1, h2⟩ l l0 l1 ⟨p1, p2⟩
    refine ⟨p1, ?_⟩
    by_cases q : l ∈ kls (prg N S t)
    · obtain ⟨x, x1, x2⟩ := List.mem_map.mp q
      have h3 := h2 _ (List.mem_map.mpr ⟨x, x1, rfl⟩)
      dsimp only at h3
      have p := f1 x x1
      have := b1 x.1 (by omega) (by omega)
      have := b2 x.1 (by omega) (by omega)
      rw [← x2] at p2 ⊢
      omega
    · by_cases q2 : l = t
      · exfalso
        rw [q2] at p2
        have := b2 t ht.1 (by omega)
        omega
      · rw [← f4 l l0 (by omega) q q2]; exact p2
end XP
