/-! the reference: the ring of a tie, a walk over merged places from its second end -/
def zmg (ki : Int → Int) (v : Int) : Int := if ki v = 1 then 16 else v
def zRB (m1 m2 : Int → Int) (cl : Int → Prop) (fr ca qu : Int → Int) (e many k p : Int) : Prop :=
  (0 ≤ k ∧ k ≤ many ∧ 1 ≤ many ∧ many ≤ 17)
  ∧ (∀ i, 0 ≤ i → i < many → (0 ≤ qu i ∧ qu i < 17) ∧ ¬ fr (qu i) = -1)
  ∧ (∀ i j, 0 ≤ i → i < many → 0 ≤ j → j < many → qu i = qu j → i = j)
  ∧ (∀ x, 0 ≤ x → x < 17 → ¬ fr x = -1 → ∃ i, 0 ≤ i ∧ i < many ∧ qu i = x)
  ∧ (qu 0 = e ∧ fr e = e)
  ∧ (∀ i, 0 < i → i < many → cl (ca (qu i)) ∧ zbt m1 m2 (ca (qu i)) (fr (qu i)) (qu i) ∧ ∃ j, 0 ≤ j ∧ j < i ∧ fr (qu i) = qu j)
  ∧ (∀ i l, 0 ≤ i → i < many → cl l → (i < k ∨ (i = k ∧ l < p)) → (m1 l = qu i → ¬ fr (m2 l) = -1) ∧ (m2 l = qu i → ¬ fr (m1 l) = -1))
section RB
variable {m1 m2 fr ca qu : Int → Int} {cl : Int → Prop} {e many k p w : Int}
theorem zRB_add (h : zRB m1 m2 cl fr ca qu e many k p) (hk : k < many) (hc : cl p) (hw : 0 ≤ w ∧ w < 17) (hb : zbt m1 m2 p (qu k) w) (hu : fr w = -1) : many < 17 ∧ zRB m1 m2 cl (fset fr w (qu k)) (fset ca w p) (fset qu many w) e (many + 1) k (p + 1) := by
  obtain ⟨⟨a1, a2, a3, a4⟩, b, c, d, f, g, j⟩ := h
  have hwr : ∀ i, 0 ≤ i → i < many → qu i ≠ w := fun i h0 h1 q => (b i h0 h1).2 (by rw [q]; exact hu)
  have hew : e ≠ w := fun q => hwr 0 (by omega) (by omega) (by rw [f.1]; exact q)
  have hkr := b k a1 hk
  have hon : many + 1 ≤ 17 := by
    refine pigI (f := fset qu many w) (n := many + 1) (b := 17) (fun i h0 h1 => ?_) (fun i i2 h0 h1 h2 h3 q => ?_) (by omega)
    · by_cases z : i = many
      · subst z; rw [fset_s]; exact hw
      · rw [fset_o _ z]; exact (b i h0 (by omega)).1
    · by_cases z : i = many
      · by_cases z2 : i2 = many
        · omega
        · rw [z, fset_s, fset_o _ z2] at q; exact absurd q.symm (hwr i2 h2 (by omega))
      · by_cases z2 : i2 = many
        · rw [z2, fset_s, fset_o _ z] at q; exact absurd q (hwr i h0 (by omega))
        · rw [fset_o _ z, fset_o _ z2] at q; exact c i i2 h0 (by omega) h2 (by omega) q
  have qO : ∀ i, i < many → fset qu many w i = qu i := fun i h1 => fset_o _ (by omega)
  have fN : ∀ x, ¬ fr x = -1 → ¬ fset fr w (qu k) x = -1 := fun x q => by
    by_cases z : x = w
    · rw [z] at q; exact absurd hu q
    · rw [fset_o _ z]; exact q
  have fW : ¬ fset fr w (qu k) w = -1 := by rw [fset_s]; omega
  refine ⟨by omega, ⟨by omega, by omega, by omega, by omega⟩, ?_, ?_, ?_, ?_, ?_, ?_⟩
  · intro i h0 h1
    by_cases z : i = many
    · rw [z, fset_s]; exact ⟨hw, fW⟩
    · rw [qO i (by omega)]; exact ⟨(b i h0 (by omega)).1, fN _ (b i h0 (by omega)).2⟩
  · intro i i2 h0 h1 h2 h3 q
    by_cases z : i = many
    · by_cases z2 : i2 = many
      · omega
      · rw [z, fset_s, fset_o _ z2] at q; exact absurd q.symm (hwr i2 h2 (by omega))
    · by_cases z2 : i2 = many
      · rw [z2, fset_s, fset_o _ z] at q; exact absurd q (hwr i h0 (by omega))
      · rw [fset_o _ z, fset_o _ z2] at q; exact c i i2 h0 (by omega) h2 (by omega) q
  · intro x h0 h1 q
    by_cases z : x = w
    · exact ⟨many, by omega, by omega, by rw [fset_s, z]⟩
    · rw [fset_o _ z] at q
      obtain ⟨i, i0, i1, i2⟩ := d x h0 h1 q
      exact ⟨i, i0, by omega, by rw [qO i i1]; exact i2⟩
  · rw [qO 0 (by omega), fset_o _ hew]; exact f
  · intro i h0 h1
    by_cases z : i = many
    · rw [z, fset_s, fset_s, fset_s]
      exact ⟨hc, hb, k, a1, hk, by rw [qO k hk]⟩
    · have hi : i < many := by omega
      rw [qO i hi, fset_o _ (hwr i (by omega) hi), fset_o _ (hwr i (by omega) hi)]
      obtain ⟨g1, g2, j2, g3, g4, g5⟩ := g i h0 hi
      exact ⟨g1, g2, j2, g3, g4, by rw [qO j2 (by omega)]; exact g5⟩
  · intro i l h0 h1 h2 h3
    have hi : i < many := by omega
    rw [qO i hi]
    by_cases z : i < k ∨ (i = k ∧ l < p)
    · have := j i l h0 hi h2 z
      exact ⟨fun q => fN _ (this.1 q), fun q => fN _ (this.2 q)⟩
    · have hik : i = k := by omega
      have hlp : l = p := by omega
      subst hik; subst hlp
      rcases hb with ⟨x1, x2⟩ | ⟨x1, x2⟩
      · exact ⟨fun _ => by rw [x2]; exact fW, fun q => absurd (by rw [← q]; exact x2) (hwr i h0 hi)⟩
      · exact ⟨fun q => absurd (by rw [← q]; exact x1) (hwr i h0 hi), fun _ => by rw [x1]; exact fW⟩
theorem zRB_skip (h : zRB m1 m2 cl fr ca qu e many k p) (hs : cl p → (m1 p = qu k → ¬ fr (m2 p) = -1) ∧ (m2 p = qu k → ¬ fr (m1 p) = -1)) : zRB m1 m2 cl fr ca qu e many k (p + 1) := by
  obtain ⟨a, b, c, d, f, g, j⟩ := h
  refine ⟨a, b, c, d, f, g, fun i l h0 h1 h2 h3 => ?_⟩
  by_cases z : i < k ∨ (i = k ∧ l < p)
  · exact j i l h0 h1 h2 z
  · have hik : i = k := by omega
    have hlp : l = p := by omega
    subst hik; subst hlp
    exact hs h2
theorem zRB_next (h : zRB m1 m2 cl fr ca qu e many k p) (hk : k < many) (hp : ∀ l, cl l → 0 ≤ l ∧ l < p) : zRB m1 m2 cl fr ca qu e many (k + 1) 0 := by
  obtain ⟨a, b, c, d, f, g, j⟩ := h
  refine ⟨by omega, b, c, d, f, g, fun i l h0 h1 h2 h3 => ?_⟩
  have := hp l h2
  exact j i l h0 h1 h2 (by omega)
end RB
/-- all but what rings writes -/
def zr4 (M M' : zM) : Prop := ∀ a i : Int, ¬ (149 ≤ a ∧ a ≤ 152) → ¬ (a = 123 ∧ i = 34) → M' a i = M a i
theorem zr4_r {M : zM} : zr4 M M := fun _ _ _ _ => rfl
theorem zr4_t {M M' M'' : zM} (h : zr4 M M') (g : zr4 M' M'') : zr4 M M'' := fun a i p q => (g a i p q).trans (h a i p q)
theorem zr4_s {M M' : zM} {a i x : Int} (h : zr4 M M') (ha : 149 ≤ a ∧ a ≤ 152 ∨ (a = 123 ∧ i = 34)) : zr4 M (zset M' a i x) := fun b j p q => by
  unfold zset
  rw [if_neg (fun z => by omega)]
  exact h b j p q
theorem zr4_row {M M' : zM} (h : zr4 M M') {a : Int} (ha : ¬ (149 ≤ a ∧ a ≤ 152)) (hb : a ≠ 123) : M' a = M a := funext fun i => h a i ha (by omega)
theorem zr4_3 {M M' : zM} (h : zr4 M M') : M' 123 3 = M 123 3 := h 123 3 (by omega) (by omega)
/-- feeders, closed lines of the reference -/
def mfd (M : zM) (v : Int) : Prop := (0 ≤ v ∧ v < 16) ∧ M 126 v = 1
def mcl (M : zM) (l : Int) : Prop := (0 ≤ l ∧ l < M 123 3) ∧ M 132 l = 1
theorem zmg_ksm {M : zM} {a b : Int} (ha : 0 ≤ a ∧ a < 16) (hb : 0 ≤ b ∧ b < 16) : zmg (M 126) a = zmg (M 126) b ↔ ksm (mfd M) a b := by
  unfold zmg ksm mfd
  by_cases p : M 126 a = 1 <;> by_cases q : M 126 b = 1 <;> simp only [p, q, if_true, if_false] <;> constructor
  · intro _; exact Or.inr ⟨⟨ha, trivial⟩, hb, trivial⟩
  · intro _; trivial
  · intro z; omega
  · rintro (z | z)
    · rw [z] at p; exact absurd p q
    · exact absurd z.2.2 (by simp)
  · intro z; omega
  · rintro (z | z)
    · rw [z] at p; exact absurd q p
    · exact absurd z.1.2 (by simp)
  · intro z; exact Or.inl z
  · rintro (z | z)
    · exact z
    · exact absurd z.1.2 (by simp)
theorem zmg_b {ki : Int → Int} {v : Int} (h : 0 ≤ v ∧ v < 16) : 0 ≤ zmg ki v ∧ zmg ki v < 17 := by
  unfold zmg
  split <;> omega
section RS
variable {Q : Int → zM → Prop} {M : zM} {t : Int}
/-- the last loop: back along the walk -/
theorem c138_e (hW : zWN M) (ht : 0 ≤ t ∧ t < M 123 3)
    (hQ : ∀ M' P, zr4 M M' → M' 123 34 = (P.length : Int) → kro (M' 149) 0 (kls P) → (kRing (mfd M) (M 128) (M 129) (mcl M) t P ∨ (P = [] ∧ kNo (mfd M) (M 128) (M 129) (mcl M) t)) → Q 0 M') {many v4 : Int} :
    ∀ (n : Nat) (M' : zM) (A : List (Int × Int)) (i y : Int), i.toNat < n → 0 ≤ i → i < many → zr4 M M' → M' 123 34 = (A.length : Int) → kro (M' 149) 0 (kls A) → zRB (fun l => zmg (M 126) (M 128 l)) (fun l => zmg (M 126) (M 129 l)) (mcl M) (M' 152) (M' 151) (M' 150) (zmg (M 126) (M 129 t)) many many 0 → ¬ M' 152 (zmg (M 126) (M 128 t)) = -1 → (0 ≤ y ∧ y < 16) → zmg (M 126) y = M' 150 i → kP (mfd M) (M 128) (M 129) (mcl M) A (M 128 t) y → (kls A).Nodup → (∀ l, l ∈ kls A → ∃ j, i < j ∧ j < many ∧ l = M' 151 (M' 150 j)) →
    zS 138 Q 239 [(2, 123), (0, t), (0, zmg (M 126) (M 128 t)), (0, zmg (M 126) (M 129 t)), (0, v4), (0, M' 150 i), (3, 0), (3, 0), (3, 0), (3, 0)] [] M' := by
  intro n
  induction n with
  | zero => intro M' A i y h; exact absurd h (by omega)
  | succ n ih =>
    intro M' A i y h1 h2 h3 h4 h5 h6 hB hs hy hyi hP hn hj
    obtain ⟨W1, W2, W3⟩ := id hW
    have hl := (W3 t ht.1 ht.2).1
    obtain ⟨⟨a1, a2, a3, a4⟩, b, c, d, f, g, j⟩ := id hB
    have hqi := b i h2 h3
    refine s138_239 ⟨zmg_b hl.1, fun q => absurd q hs, fun _ => ⟨fun q => ?_, fun q => ⟨hqi.1, ?_⟩⟩⟩
    · refine hQ M' A h4 h5 h6 (Or.inl ⟨kP_se ((zmg_ksm hy hl.2.1).mp (by rw [hyi]; exact q)) hP, hn⟩)
    · have hi0 : 0 < i := by
        rcases Int.lt_or_le 0 i with z | z
        · exact z
        · exfalso
          have : i = 0 := by omega
          rw [this, f.1] at q
          exact q rfl
      obtain ⟨g1, g2, j2, g3, g4, g5⟩ := g i hi0 h3
      generalize hL : M' 151 (M' 150 i) = L at *
      have hlL := (W3 L g1.1.1 g1.1.2).1
      -- the end of the line at hand
      obtain ⟨x, z, z1, z2, z3, z4, z5⟩ : ∃ x z, zbt (M 128) (M 129) L x z ∧ (0 ≤ x ∧ x < 16) ∧ (0 ≤ z ∧ z < 16) ∧ zmg (M 126) x = M' 150 i ∧ zmg (M 126) z = M' 150 j2 := by
        rcases g2 with ⟨p, q⟩ | ⟨p, q⟩
        · exact ⟨M 129 L, M 128 L, Or.inr ⟨rfl, rfl⟩, hlL.2.1, hlL.1, q, p.trans g5⟩
        · exact ⟨M 128 L, M 129 L, Or.inl ⟨rfl, rfl⟩, hlL.1, hlL.2.1, p, q.trans g5⟩
      have hLn : L ∉ kls A := fun hm => by
        obtain ⟨j3, k1, k2, k3⟩ := hj L hm
        obtain ⟨p1, p2, j4, p3, p4, p5⟩ := g j3 (by omega) k2
        rw [← k3, p5] at p2
        rw [g5] at g2
        have e := zbt_ends g2 p2
        rcases e with ⟨e1, e2⟩ | ⟨e1, e2⟩
        · have := c j3 i (by omega) k2 h2 h3 e2; omega
        · have := c j3 j2 (by omega) k2 g3 (by omega) e2; omega
      have hAL : (kls (A ++ [(L, x)])).Nodup := by
        unfold kls at *
        rw [List.map_append]
        refine List.nodup_append.mpr ⟨hn, by simp, fun p hp q hq => ?_⟩
        simp only [List.map_cons, List.map_nil, List.mem_singleton] at hq
        rw [hq]
        exact fun z => hLn (by rw [← z]; exact hp)
      have hP2 : kP (mfd M) (M 128) (M 129) (mcl M) (A ++ [(L, x)]) (M 128 t) z := kP_app.mpr ⟨y, hP, g1, (zmg_ksm hy z2).mp (by rw [hyi, z4]), z, z1, ksm_r _⟩
      have hlen : (A ++ [(L, x)]).length ≤ 24 := by
        have := nodup_16 (b := 24) hAL (fun l hl => by
          obtain ⟨e, e1, e2⟩ := List.mem_map.mp hl
          have := (kP_S hP2 e e1).1
          rw [← e2]
          have := this.1
          omega)
        unfold kls at this
        rw [List.length_map] at this
        exact this
      rw [List.length_append, List.length_singleton] at hlen
      refine ⟨by omega, ?_⟩
      generalize hN : zset (zset M' 149 (M' 123 34) L) 123 34 (zw (M' 123 34 + 1)) = N
      have nO : ∀ a, a ≠ 149 → a ≠ 123 → N a = M' a := fun a p q => by rw [← hN, zrow_o _ q, zrow_o _ p]
      have n34 : N 123 34 = ((A ++ [(L, x)]).length : Int) := by
        rw [← hN, zrow_s, fset_s, zw_id (by omega), h5, List.length_append, List.length_singleton]; rfl
      have n149 : N 149 = fset (M' 149) (M' 123 34) L := by rw [← hN, zrow_o _ (by decide), zrow_s]
      rw [g5, ← nO 150 (by decide) (by decide)]
      refine ih N (A ++ [(L, x)]) j2 z (by omega) g3 (by omega) (zr4_t h4 (by rw [← hN]; exact zr4_s (zr4_s zr4_r (by omega)) (by omega))) n34 ?_ (by rw [nO 150 (by decide) (by decide), nO 151 (by decide) (by decide), nO 152 (by decide) (by decide)]; exact hB) (by rw [nO 152 (by decide) (by decide)]; exact hs) z3 (by rw [nO 150 (by decide) (by decide)]; exact z5) hP2 hAL ?_
      · rw [n149, h5]
        unfold kls
        rw [List.map_append]
        have := kro_push (x := L) h6
        unfold kls at this
        rw [List.length_map] at this
        exact this
      · intro l hl
        rw [nO 150 (by decide) (by decide), nO 151 (by decide) (by decide)]
        unfold kls at hl
        rw [List.map_append] at hl
        rcases List.mem_append.mp hl with z | z
        · obtain ⟨j3, k1, k2, k3⟩ := hj l z
          exact ⟨j3, by omega, k2, k3⟩
        · simp only [List.map_cons, List.map_nil, List.mem_singleton] at z
          exact ⟨i, g4, h3, by rw [z, hL]⟩
theorem c137' {a1 : Int} (ha : 0 ≤ a1 ∧ a1 < 16) (h : ∀ x, x = zmg (M 126) a1 → Q x M) : zF 137 Q [(2, 123), (0, a1)] M := c137 ha (h _ rfl)
/-- the walk -/
theorem c138_w (hW : zWN M) (ht : 0 ≤ t ∧ t < M 123 3)
    (hQ : ∀ M' P, zr4 M M' → M' 123 34 = (P.length : Int) → kro (M' 149) 0 (kls P) → (kRing (mfd M) (M 128) (M 129) (mcl M) t P ∨ (P = [] ∧ kNo (mfd M) (M 128) (M 129) (mcl M) t)) → Q 0 M') :
    ∀ n : Nat, (∀ (M' : zM) (many k : Int), (17 - k).toNat * 26 < n → zr4 M M' → M' 123 34 = 0 → zRB (fun l => zmg (M 126) (M 128 l)) (fun l => zmg (M 126) (M 129 l)) (mcl M) (M' 152) (M' 151) (M' 150) (zmg (M 126) (M 129 t)) many k 0 → zS 138 Q 75 [(2, 123), (0, t), (0, zmg (M 126) (M 128 t)), (0, zmg (M 126) (M 129 t)), (0, many), (0, k), (3, 0), (3, 0), (3, 0), (3, 0)] [] M')
    ∧ (∀ (M' : zM) (many k p : Int), (16 - k).toNat * 26 + (M 123 3 - p).toNat + 1 < n → k < many → (0 ≤ p ∧ p ≤ M 123 3) → zr4 M M' → M' 123 34 = 0 → zRB (fun l => zmg (M 126) (M 128 l)) (fun l => zmg (M 126) (M 129 l)) (mcl M) (M' 152) (M' 151) (M' 150) (zmg (M 126) (M 129 t)) many k p → zS 138 Q 85 [(2, 123), (0, t), (0, zmg (M 126) (M 128 t)), (0, zmg (M 126) (M 129 t)), (0, many), (0, k), (0, p), (3, 0), (3, 0), (3, 0)] [] M') := by
  obtain ⟨W1, W2, W3⟩ := id hW
  have hl := (W3 t ht.1 ht.2).1
  intro n
  induction n with
  | zero => exact ⟨fun _ _ _ h => absurd h (by omega), fun _ _ _ _ h => absurd h (by omega)⟩
  | succ n ih =>
    refine ⟨fun M' many k hn h4 h5 hB => ?_, fun M' many k p hn hk hp h4 h5 hB => ?_⟩
    · obtain ⟨⟨a1, a2, a3, a4⟩, b, c, d, f, g, j⟩ := id hB
      refine s138_75 ⟨fun q => ?_, fun q => ih.2 M' many k 0 (by omega) q (by omega) h4 h5 hB⟩
      have hkm : k = many := by omega
      subst hkm
      by_cases hs : M' 152 (zmg (M 126) (M 128 t)) = -1
      · refine s138_239 ⟨zmg_b hl.1, fun _ => ?_, fun q => absurd hs q⟩
        refine hQ M' [] h4 h5 trivial (Or.inr ⟨rfl, fun v => decide (M' 152 (zmg (M 126) v) = -1), fun x y hx hy => ?_, fun l hl => ?_, fun z => ?_⟩)
        · have : zmg (M 126) x = zmg (M 126) y := (zmg_ksm hx.1 hy.1).mpr (Or.inr ⟨hx, hy⟩)
          show decide (M' 152 (zmg (M 126) x) = -1) = decide (M' 152 (zmg (M 126) y) = -1)
          rw [this]
        · have hlL := (W3 l hl.1.1 hl.1.2).1
          refine decide_eq_decide.mpr ⟨fun z => ?_, fun z => ?_⟩
          · refine Classical.byContradiction fun y => ?_
            obtain ⟨i, i0, i1, i2⟩ := d _ (zmg_b hlL.2.1).1 (zmg_b hlL.2.1).2 y
            exact (j i l i0 i1 hl (Or.inl i1)).2 i2.symm z
          · refine Classical.byContradiction fun y => ?_
            obtain ⟨i, i0, i1, i2⟩ := d _ (zmg_b hlL.1).1 (zmg_b hlL.1).2 y
            exact (j i l i0 i1 hl (Or.inl i1)).1 i2.symm z
        · have z1 := (decide_eq_decide.mp z).mp hs
          rw [f.2] at z1
          have := zmg_b (ki := M 126) hl.2.1
          omega
      · obtain ⟨i, i0, i1, i2⟩ := d _ (zmg_b hl.1).1 (zmg_b hl.1).2 hs
        have := c138_e hW ht hQ (many := k) (v4 := k) (i.toNat + 1) M' [] i (M 128 t) (by omega) i0 i1 h4 h5 trivial hB hs hl.1 i2.symm (ksm_r _) List.nodup_nil (fun l z => by cases z)
        rw [i2] at this
        exact this
    · obtain ⟨⟨a1, a2, a3, a4⟩, b, c, d, f, g, j⟩ := id hB
      have e3 := zr4_3 h4
      have e126 : M' 126 = M 126 := zr4_row h4 (by omega) (by omega)
      have e128 : M' 128 = M 128 := zr4_row h4 (by omega) (by omega)
      have e129 : M' 129 = M 129 := zr4_row h4 (by omega) (by omega)
      have e132 : M' 132 = M 132 := zr4_row h4 (by omega) (by omega)
      have hqk := b k a1 hk
      refine s138_85 ⟨fun q => ?_, fun q => ?_⟩
      · rw [zw_id (by omega)]
        rw [e3] at q
        exact ih.1 M' many (k + 1) (by omega) h4 h5 (zRB_next hB hk (fun l hl => by have := hl.1; omega))
      · rw [e3] at q
        have hlp := (W3 p hp.1 q).1
        have skip : (mcl M p → (zmg (M 126) (M 128 p) = M' 150 k → ¬ M' 152 (zmg (M 126) (M 129 p)) = -1) ∧ (zmg (M 126) (M 129 p) = M' 150 k → ¬ M' 152 (zmg (M 126) (M 128 p)) = -1)) → zS 138 Q 85 [(2, 123), (0, t), (0, zmg (M 126) (M 128 t)), (0, zmg (M 126) (M 129 t)), (0, many), (0, k), (0, zw (p + 1)), (3, 0), (3, 0), (3, 0)] [] M' := fun hs => by
          rw [zw_id (by omega)]
          exact ih.2 M' many k (p + 1) (by omega) hk (by omega) h4 h5 (zRB_skip hB hs)
        have add : ∀ w, (0 ≤ w ∧ w < 17) → zbt (fun l => zmg (M 126) (M 128 l)) (fun l => zmg (M 126) (M 129 l)) p (M' 150 k) w → M' 152 w = -1 → mcl M p → zS 138 Q 85 [(2, 123), (0, t), (0, zmg (M 126) (M 128 t)), (0, zmg (M 126) (M 129 t)), (0, zw (many + 1)), (0, k), (0, zw (p + 1)), (3, 0), (3, 0), (3, 0)] [] (zset (zset (zset M' 152 w (M' 150 k)) 151 w p) 150 many w) := fun w hw hb hu hc => by
          obtain ⟨u1, u2⟩ := zRB_add hB hk hc hw hb hu
          rw [zw_id (x := p + 1) (by omega), zw_id (x := many + 1) (by omega)]
          refine ih.2 _ (many + 1) k (p + 1) (by omega) (by omega) (by omega) (zr4_s (zr4_s (zr4_s h4 (by omega)) (by omega)) (by omega)) (by rw [zrow_o _ (by decide), zrow_o _ (by decide), zrow_o _ (by decide)]; exact h5) ?_
          have r1 : zset (zset (zset M' 152 w (M' 150 k)) 151 w p) 150 many w 152 = fset (M' 152) w (M' 150 k) := by rw [zrow_o _ (by decide), zrow_o _ (by decide), zrow_s]
          have r2 : zset (zset (zset M' 152 w (M' 150 k)) 151 w p) 150 many w 151 = fset (M' 151) w p := by rw [zrow_o _ (by decide), zrow_s, zrow_o _ (by decide)]
          have r3 : zset (zset (zset M' 152 w (M' 150 k)) 151 w p) 150 many w 150 = fset (M' 150) many w := by rw [zrow_s, zrow_o _ (by decide), zrow_o _ (by decide)]
          rw [r1, r2, r3]
          exact u2
        refine ⟨by omega, c137' (by rw [e128]; exact hlp.1) (fun x hx => c137' (by rw [e129]; exact hlp.2.1) (fun y hy => ?_))⟩
        rw [e126, e128] at hx
        rw [e126, e129] at hy
        rw [e132]
        have xb : 0 ≤ x ∧ x < 17 := by rw [hx]; exact zmg_b hlp.1
        have yb : 0 ≤ y ∧ y < 17 := by rw [hy]; exact zmg_b hlp.2.1
        have hcl : M 132 p = 1 → mcl M p := fun z => ⟨⟨hp.1, q⟩, z⟩
        refine ⟨fun q0 => ⟨by omega, fun q1 => ⟨fun q2 => skip (fun _ => ⟨fun z => absurd (hx.trans z) q1, fun z => absurd (hy.trans z) q2⟩), fun q2 => ⟨fun q3 => by omega, fun _ => ⟨xb, fun q4 => skip (fun _ => ⟨fun z => absurd (hx.trans z) q1, fun _ => by rw [← hx]; exact q4⟩), fun q4 => ⟨by omega, add x xb (Or.inr ⟨hx.symm, hy.symm.trans q2⟩) q4 (hcl q0)⟩⟩⟩⟩, fun q1 => ⟨fun q3 => by omega, fun _ => ⟨yb, fun q4 => skip (fun _ => ⟨fun _ => by rw [← hy]; exact q4, fun _ => by rw [← hx, q1]; exact hqk.2⟩), fun q4 => ⟨by omega, add y yb (Or.inl ⟨hx.symm.trans q1, hy.symm⟩) q4 (hcl q0)⟩⟩⟩⟩, fun q0 => skip (fun z => absurd z.2 q0)⟩
/-- the ring of a tie -/
theorem c138 (hW : zWN M) (ht : 0 ≤ t ∧ t < M 123 3)
    (hQ : ∀ M' P, zr4 M M' → M' 123 34 = (P.length : Int) → kro (M' 149) 0 (kls P) → (kRing (mfd M) (M 128) (M 129) (mcl M) t P ∨ (P = [] ∧ kNo (mfd M) (M 128) (M 129) (mcl M) t)) → Q 0 M') : zF 138 Q [(2, 123), (0, t)] M := by
  obtain ⟨W1, W2, W3⟩ := id hW
  have hl := (W3 t ht.1 ht.2).1
  have key : ∀ (n : Nat) (M' : zM) (v : Int), v + n = 17 → 0 ≤ v → zr4 M M' → M' 123 34 = 0 → (∀ i, 0 ≤ i → i < v → M' 152 i = -1) → zS 138 Q 7 [(2, 123), (0, t), (0, v), (3, 0), (3, 0), (3, 0), (3, 0), (3, 0), (3, 0), (3, 0)] [] M' := by
    intro n
    induction n with
    | zero =>
      intro M' v hv h0 h4 h5 h6
      have e126 : M' 126 = M 126 := zr4_row h4 (by omega) (by omega)
      have e128 : M' 128 = M 128 := zr4_row h4 (by omega) (by omega)
      have e129 : M' 129 = M 129 := zr4_row h4 (by omega) (by omega)
      refine s138_7 ⟨fun _ => ⟨by omega, c137' (by rw [e128]; exact hl.1) (fun x hx => c137' (by rw [e129]; exact hl.2.1) (fun y hy => ?_))⟩, fun q => by omega⟩
      rw [e126, e128] at hx
      rw [e126, e129] at hy
      have yb : 0 ≤ y ∧ y < 17 := by rw [hy]; exact zmg_b hl.2.1
      refine ⟨yb, ?_⟩
      have r1 : zset (zset M' 150 0 y) 152 y y 152 = fset (M' 152) y y := by rw [zrow_s, zrow_o _ (by decide)]
      have r3 : zset (zset M' 150 0 y) 152 y y 150 = fset (M' 150) 0 y := by rw [zrow_o _ (by decide), zrow_s]
      rw [hx]
      have := (c138_w hW ht hQ (17 * 26 + 1)).1 (zset (zset M' 150 0 y) 152 y y) 1 0 (by omega) (zr4_s (zr4_s h4 (by omega)) (by omega)) (by rw [zrow_o _ (by decide), zrow_o _ (by decide)]; exact h5) ?_
      · rw [hy] at this ⊢
        exact this
      · rw [r1, r3, ← hy]
        refine ⟨by omega, fun i i0 i1 => ?_, fun i j i0 i1 j0 j1 _ => by omega, fun x x0 x1 q => ?_, ⟨fset_s _ _ _, fset_s _ _ _⟩, fun i i0 i1 => by omega, fun i l i0 i1 hc z => ?_⟩
        · have : i = 0 := by omega
          rw [this, fset_s, fset_s]
          exact ⟨yb, by omega⟩
        · by_cases z : x = y
          · exact ⟨0, by omega, by omega, by rw [fset_s, z]⟩
          · rw [fset_o _ z] at q
            exact absurd (h6 x x0 (by omega)) q
        · have := hc.1; omega
    | succ n ih =>
      intro M' v hv h0 h4 h5 h6
      refine s138_7 ⟨fun q => by omega, fun _ => ⟨by omega, ?_⟩⟩
      rw [zw_id (by omega)]
      refine ih _ (v + 1) (by omega) (by omega) (zr4_s (zr4_s h4 (by omega)) (by omega)) (by rw [zrow_o _ (by decide), zrow_o _ (by decide)]; exact h5) (fun i i0 i1 => ?_)
      rw [zrow_s, zrow_o _ (by decide)]
      by_cases z : i = v
      · rw [z, fset_s]
      · rw [fset_o _ z]; exact h6 i i0 (by omega)
  exact s138_0 (key 17 _ 0 (by omega) (by omega) (zr4_s zr4_r (by omega)) (by rw [zrow_s, fset_s]) (fun i a b => by omega))
end RS
