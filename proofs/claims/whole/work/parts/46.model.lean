/-! the reference in pure words -/
def mN (N : zM) (S : Int) (M : zM) : Prop :=
  M 123 3 = N 4 2
  ∧ (∀ v, 0 ≤ v → v < 16 → (tbs (N 4 1) v ↔ M 126 v = 1) ∧ (tbs (N 4 0) v ↔ ¬ M 126 v = 0) ∧ M 127 v = N 5 v ∧ 0 ≤ M 126 v ∧ M 126 v ≤ 2)
  ∧ (∀ l, 0 ≤ l → l < N 4 2 → M 128 l = N 6 l ∧ M 129 l = N 7 l ∧ M 130 l = N 8 l ∧ M 131 l = N 9 l ∧ (tbs S l ↔ M 132 l = 1) ∧ (tbs (N 4 4) l ↔ M 132 l = 2) ∧ 0 ≤ M 132 l ∧ M 132 l ≤ 2)
/-- all but what the reference reckons with -/
def mfr (M M' : zM) : Prop := ∀ a i : Int, ¬ (142 ≤ a ∧ a ≤ 158) → ¬ (a = 123 ∧ 31 ≤ i) → M' a i = M a i
theorem mfr_r {M : zM} : mfr M M := fun _ _ _ _ => rfl
theorem mfr_t {M M' M'' : zM} (h : mfr M M') (g : mfr M' M'') : mfr M M'' := fun a i p q => (g a i p q).trans (h a i p q)
theorem mfr_s {M M' : zM} {a i x : Int} (h : mfr M M') (ha : 142 ≤ a ∧ a ≤ 158 ∨ (a = 123 ∧ 31 ≤ i)) : mfr M (zset M' a i x) := fun b j p q => by
  unfold zset
  rw [if_neg (fun z => by omega)]
  exact h b j p q
theorem mfr_row {M M' : zM} (h : mfr M M') {a : Int} (ha : ¬ (142 ≤ a ∧ a ≤ 158)) (hb : a ≠ 123) : M' a = M a := funext fun i => h a i ha (by omega)
theorem mfr_7 {M M' : zM} (h : zL7 M M') : mfr M M' := fun a i p q => h a i (by omega) (by omega)
theorem mfr_4 {M M' : zM} (h : zr4 M M') : mfr M M' := fun a i p q => h a i (by omega) (by omega)
theorem mN_fr {N : zM} {S : Int} {M M' : zM} (h : mN N S M) (g : mfr M M') : mN N S M' := by
  unfold mN
  rw [g 123 3 (by omega) (by omega), mfr_row g (a := 126) (by omega) (by omega), mfr_row g (a := 127) (by omega) (by omega), mfr_row g (a := 128) (by omega) (by omega), mfr_row g (a := 129) (by omega) (by omega), mfr_row g (a := 130) (by omega) (by omega), mfr_row g (a := 131) (by omega) (by omega), mfr_row g (a := 132) (by omega) (by omega)]
  exact h
/-- a pure net and a shape that it can have -/
def pD (N : zM) (S : Int) : Prop := ∀ l, tbs S l → ¬ tbs (N 4 4) l
theorem kP_cg {fd : Int → Prop} {fi se fi' se' : Int → Int} {S : Int → Prop} (hc : ∀ l, S l → fi' l = fi l ∧ se' l = se l) : ∀ {P : List (Int × Int)} {a b : Int}, kP fd fi' se' S P a b → kP fd fi se S P a b
  | [], _, _, h => h
  | e :: P, a, b, ⟨h1, h2, y, h3, h4⟩ => ⟨h1, h2, y, by unfold zbt at h3 ⊢; rw [(hc _ h1).1, (hc _ h1).2] at h3; exact h3, kP_cg hc h4⟩
section MP
variable {N : zM} {S : Int} {M : zM} {Q : Int → zM → Prop}
theorem mN_fd (hW : pW N) (h : mN N S M) : mfd M = tbs (N 4 1) := funext fun v => propext ⟨fun z => ((h.2.1 v z.1.1 z.1.2).1).mpr z.2, fun z => by
  have h1 := hW.2.1 v (hW.2.2.1 v z)
  have h0 := z.1
  exact ⟨by omega, ((h.2.1 v h0.1 h1).1).mp z⟩⟩
theorem mN_cl (h : mN N S M) (hk : ∀ l, tbs S l → l < N 4 2) : mcl M = tbs S := funext fun l => propext ⟨fun z => by
  have := z.1
  rw [h.1] at this
  exact (h.2.2 l this.1 this.2).2.2.2.2.1.mpr z.2, fun z => by
  have h1 := hk l z
  have h0 := z.1
  exact ⟨by rw [h.1]; omega, (h.2.2 l h0.1 h1).2.2.2.2.1.mp z⟩⟩
theorem mN_W (hW : pW N) (h : mN N S M) : zWN M := by
  refine ⟨by rw [h.1]; exact hW.1, fun v h0 h1 => ?_, fun l h0 h1 => ?_⟩
  · have a := h.2.1 v h0 h1
    have b := hW.2.2.2.1 v h0 h1
    exact ⟨⟨a.2.2.2.1, a.2.2.2.2⟩, by rw [a.2.2.1]; exact b.1⟩
  · rw [h.1] at h1
    have a := h.2.2 l h0 h1
    have b := hW.2.2.2.2 l h0 h1
    rw [a.1, a.2.1, a.2.2.1, a.2.2.2.1]
    exact ⟨⟨b.1.1, b.1.2.1, b.1.2.2.1⟩, b.2.1, b.2.2, a.2.2.2.2.2.2⟩
/-- the reference's tree and flows -/
theorem mN_T (hW : pW N) (h : mN N S M) (hk : ∀ l, tbs S l → l < N 4 2) (hL : zLS M) : kT (tbs (N 4 1)) (N 6) (N 7) (tbs S) (fun v => (0 ≤ v ∧ v < 16) ∧ ¬ M 142 v = -1) (M 142) (M 143) (M 144) ∧ kF (tbs (N 4 1)) (N 5) (N 6) (N 7) (fun v => (0 ≤ v ∧ v < 16) ∧ ¬ M 142 v = -1) (M 143) (M 145) (M 147) (M 148) := by
  obtain ⟨⟨t1, t2, t3, t4, t5⟩, f1, f2, f3, f4, f5, f6⟩ := hL
  have hm := hW.1
  have fdv : ∀ v, tbs (N 4 1) v → (0 ≤ v ∧ v < 16) ∧ M 126 v = 1 := fun v q => by
    rw [← mN_fd hW h] at q; exact q
  have vfd : ∀ v, 0 ≤ v → v < 16 → ¬ tbs (N 4 1) v → ¬ M 126 v = 1 := fun v a b q z => q ((h.2.1 v a b).1.mpr z)
  have bt : ∀ l u v, 0 ≤ l → l < N 4 2 → (zbt (M 128) (M 129) l u v ↔ zbt (N 6) (N 7) l u v) := fun l u v a b => by
    unfold zbt
    rw [(h.2.2 l a b).1, (h.2.2 l a b).2.1]
  have cl : ∀ l, 0 ≤ l → l < M 123 3 → M 132 l = 1 → tbs S l := fun l a b c => by
    rw [h.1] at b
    exact (h.2.2 l a b).2.2.2.2.1.mpr c
  constructor
  · refine ⟨fun v hv => ?_, fun v hv => ?_, fun v hv hn => ?_, fun l u v hl hb hu => ?_⟩
    · obtain ⟨a, b⟩ := fdv v hv
      have := t1 v a.1 a.2 b
      exact ⟨⟨a, by omega⟩, this⟩
    · have := t3 v hv.1.1 hv.1.2 hv.2
      exact ⟨hv.1, (h.2.1 _ this.1.1 this.1.2.1).1.mpr this.1.2.2, this.2⟩
    · obtain ⟨⟨a1, a2, a3⟩, u, a4, a5, a6, a7, a8⟩ := t4 v hv.1.1 hv.1.2 (vfd v hv.1.1 hv.1.2 hn) hv.2
      exact ⟨cl _ a1 a2 a3, u, (bt _ _ _ a1 (by rw [← h.1]; exact a2)).mp a5, ⟨a4, a6⟩, a7, a8⟩
    · have l1 := hk l hl
      have l0 := hl.1.1
      have hw := (hW.2.2.2.2 l l0 l1).1
      have hv : 0 ≤ v ∧ v < 16 := by
        rcases hb with ⟨p, q⟩ | ⟨p, q⟩
        · rw [← q]; exact hw.2.1
        · rw [← p]; exact hw.1
      refine ⟨hv, t5 l u v l0 (by rw [h.1]; exact l1) ((h.2.2 l l0 l1).2.2.2.2.1.mp hl) ((bt _ _ _ l0 l1).mpr hb) hu.1 hv hu.2⟩
  · refine ⟨fun v hv => ?_, fun v hv hn => ?_, fun l a b => ?_, fun v hv => f5 v hv.1.1 hv.1.2, f6⟩
    · rw [f1 v hv.1.1 hv.1.2 hv.2]
      have e : (if M 126 v = 2 then M 127 v else 0) = N 5 v := by
        have a := h.2.1 v hv.1.1 hv.1.2
        have b := hW.2.2.2.1 v hv.1.1 hv.1.2
        by_cases q : M 126 v = 2
        · rw [if_pos q]; exact a.2.2.1
        · rw [if_neg q]
          by_cases q1 : M 126 v = 1
          · exact (b.2.1 (a.1.mpr q1)).symm
          · exact (b.2.2 (fun z => a.2.1.mp z (by omega))).symm
      rw [e]
    · have hv' := vfd v hv.1.1 hv.1.2 hn
      obtain ⟨⟨a1, a2, a3⟩, _⟩ := t4 v hv.1.1 hv.1.2 hv' hv.2
      have := f2 v hv.1.1 hv.1.2 hv.2 hv'
      exact ⟨⟨a1, by rw [h.1] at a2; omega⟩, this.1, (bt _ _ _ a1 (by rw [← h.1]; exact a2)).mp this.2.1⟩
    · refine ⟨(f3 l a b).1, fun q => ?_⟩
      obtain ⟨v, v1, v2, v3, v4⟩ := (f3 l a b).2 q
      exact ⟨v, ⟨v1, v2⟩, fun z => v3 (fdv v z).2, v4⟩
theorem mN_X (hW : pW N) (h : mN N S M) (hk : ∀ l, tbs S l → l < N 4 2) (hL : zLS M) : pX N S (M 147) (M 148) := ⟨_, _, _, _, _, mN_T hW h hk hL⟩
theorem mN_li (hW : pW N) (h : mN N S M) (hk : ∀ l, tbs S l → l < N 4 2) (hL : zLS M) {v : Int} (h0 : 0 ≤ v) (h1 : v < 16) : ¬ M 142 v = -1 ↔ pli N S v := by
  have := kT_lit (mN_T hW h hk hL).1 v
  exact ⟨fun z => this.mp ⟨⟨h0, h1⟩, z⟩, fun z => (this.mpr z).2⟩
/-- the loss -/
theorem c119 {a1 : Int} (hW : zWN M) (hf : ∀ l, 0 ≤ l → l < 24 → 0 ≤ M 147 l ∧ M 147 l ≤ 1584) (hn : ∀ l, 0 ≤ l → l < 24 → M 148 l = -1 ∨ (0 ≤ M 148 l ∧ M 148 l < 16)) (h : Q (zsum (fun l => if a1 = -1 ∨ (¬ M 148 l = -1 ∧ M 142 (M 148 l) = a1) then M 130 l * M 147 l * M 147 l else 0) (M 123 3).toNat) M) : zF 119 Q [(2, 123), (0, a1)] M := by
  have one : ∀ k : Nat, k < (M 123 3).toNat → (0 ≤ M 130 k * M 147 k * M 147 k ∧ M 130 k * M 147 k * M 147 k ≤ 248396544) ∧ zW (zW (M 130 k * M 147 k) * M 147 k) = M 130 k * M 147 k * M 147 k := fun k hk => by
    have w1 := hW.1
    have w2 := (hW.2.2 k (by omega) (by omega)).2.1
    have w3 := hf k (by omega) (by omega)
    have a0 : 0 ≤ M 130 k * M 147 k := Int.mul_nonneg (by omega) w3.1
    have a1 : M 130 k * M 147 k ≤ 99 * 1584 := Int.mul_le_mul w2.2 w3.2 w3.1 (by omega)
    have b0 : 0 ≤ M 130 k * M 147 k * M 147 k := Int.mul_nonneg a0 w3.1
    have b1 : M 130 k * M 147 k * M 147 k ≤ 99 * 1584 * 1584 := Int.mul_le_mul a1 w3.2 w3.1 (by omega)
    refine ⟨⟨b0, by omega⟩, ?_⟩
    rw [zW_id (x := M 130 k * M 147 k) (by omega), zW_id (by omega)]
  have hb : ∀ n : Nat, n ≤ (M 123 3).toNat → 0 ≤ zsum (fun l => if a1 = -1 ∨ (¬ M 148 l = -1 ∧ M 142 (M 148 l) = a1) then M 130 l * M 147 l * M 147 l else 0) n ∧ zsum (fun l => if a1 = -1 ∨ (¬ M 148 l = -1 ∧ M 142 (M 148 l) = a1) then M 130 l * M 147 l * M 147 l else 0) n ≤ 248396544 * n := fun n hn => zsum_b n (fun i hi => by
    have := (one i (by omega)).1
    split <;> omega)
  have key : ∀ (n k : Nat), ((k : Nat) : Int) + n = M 123 3 → zS 119 Q 5 [(2, 123), (0, a1), (1, zsum (fun l => if a1 = -1 ∨ (¬ M 148 l = -1 ∧ M 142 (M 148 l) = a1) then M 130 l * M 147 l * M 147 l else 0) k), (3, 0), (0, (k : Int)), (3, 0)] [] M := by
    intro n
    induction n with
    | zero =>
      intro k hk
      refine s119_5 ⟨fun q => ?_, fun q => absurd q (by omega)⟩
      rwa [show k = (M 123 3).toNat by omega]
    | succ n ih =>
      intro k hk
      have w1 := hW.1
      have h1 := hb k (by omega)
      have h2 := one k (by omega)
      have h3 := hn k (by omega) (by omega)
      have e := ih (k + 1) (by omega)
      unfold zsum at e
      refine s119_5 ⟨fun q => absurd q (by omega), fun q => ⟨fun q2 => ⟨by omega, ?_⟩, fun q2 => ⟨by omega, fun q3 => ?_, fun q3 => ⟨by omega, fun q4 => ?_, fun q4 => ?_⟩⟩⟩⟩
      · rw [zw_id (x := (k : Int) + 1) (by omega), h2.2, zW_id (by omega)]
        rwa [if_pos (Or.inl q2)] at e
      · rw [zw_id (x := (k : Int) + 1) (by omega), zW_id (by omega)]
        rwa [if_neg (fun z => by rcases z with z | z; exact q2 z; exact z.1 q3)] at e
      · rw [zw_id (x := (k : Int) + 1) (by omega), zW_id (by omega)]
        rwa [if_neg (fun z => by rcases z with z | z; exact q2 z; exact q4 z.2)] at e
      · rw [zw_id (x := (k : Int) + 1) (by omega), h2.2, zW_id (by omega)]
        rwa [if_pos (Or.inr ⟨q3, q4⟩)] at e
  exact s119_0 (key (M 123 3).toNat 0 (by have := hW.1; omega))
theorem mN_ne (hW : pW N) (h : mN N S M) (hk : ∀ l, tbs S l → l < N 4 2) (hL : zLS M) : ∀ l, 0 ≤ l → l < 24 → M 148 l = -1 ∨ (0 ≤ M 148 l ∧ M 148 l < 16) := fun l a b => by
  obtain ⟨k1, k2⟩ := mN_T hW h hk hL
  by_cases q : M 148 l = -1
  · exact Or.inl q
  · obtain ⟨w, w1, w2, w3, w4, w5, w6, w7, w8⟩ := kF_l k1 k2 a b q
    exact Or.inr w5.1
theorem c120 (hW : pW N) (h : mN N S M) (hk : pok N S) (hL : zLS M) (hQ : Q (pls N S) M) : zF 120 Q [(2, 123)] M := by
  refine s120_0 (c119 (mN_W hW h) hL.2.2.2.2.2.2 (mN_ne hW h hk.1 hL) ?_)
  have e : zsum (fun l => if (-1 : Int) = -1 ∨ (¬ M 148 l = -1 ∧ M 142 (M 148 l) = -1) then M 130 l * M 147 l * M 147 l else 0) (M 123 3).toNat = pls N S := by
    unfold pls
    rw [h.1]
    have hm := hW.1
    refine zsum_congr _ (fun i hi => ?_)
    rw [if_pos (Or.inl rfl), (pfl_of hk.2 (mN_X hW h hk.1 hL) (l := i) (by omega) (by omega)).1, (h.2.2 i (by omega) (by omega)).2.2.1]
  rw [e]; exact hQ
theorem c121' (hW : pW N) (h : mN N S M) (hk : pok N S) (hL : zLS M) (hQ : ∀ r, zmk r (pov N S) → Q r M) : zF 121 Q [(2, 123)] M := by
  have hm := hW.1
  refine c121 (by rw [h.1]; exact hm) (fun r hr => hQ r (zmk_cg hr (fun l h0 h1 => ?_)))
  unfold pov
  rw [h.1]
  constructor
  · rintro ⟨a, b⟩
    rw [(pfl_of hk.2 (mN_X hW h hk.1 hL) h0 (by omega)).1, (h.2.2 l h0 a).2.2.2.1] at b
    exact ⟨a, b⟩
  · rintro ⟨a, b⟩
    rw [← (pfl_of hk.2 (mN_X hW h hk.1 hL) h0 (by omega)).1, ← (h.2.2 l h0 a).2.2.2.1] at b
    exact ⟨a, b⟩
theorem c122' (hW : pW N) (h : mN N S M) (hk : ∀ l, tbs S l → l < N 4 2) (hL : zLS M) (hQ : Q (plt N S) M) : zF 122 Q [(2, 123)] M := by
  refine c122 (fun v a b => ((mN_W hW h).2.1 v a b).2) ?_
  have e : zsum (fun v => if M 126 v = 2 ∧ ¬ M 142 v = -1 then M 127 v else 0) 16 = plt N S := by
    unfold plt
    refine zsum_congr 16 (fun i hi => ?_)
    have a := h.2.1 i (by omega) (by omega)
    have b := hW.2.2.2.1 i (by omega) (by omega)
    have c := mN_li hW h hk hL (v := i) (by omega) (by omega)
    by_cases q : pli N S i
    · rw [if_pos q]
      by_cases q2 : M 126 i = 2
      · rw [if_pos ⟨q2, c.mpr q⟩]; exact a.2.2.1
      · rw [if_neg (fun z => q2 z.1)]
        by_cases q1 : M 126 i = 1
        · exact (b.2.1 (a.1.mpr q1)).symm
        · exact (b.2.2 (fun z => a.2.1.mp z (by omega))).symm
    · rw [if_neg q, if_neg (fun z => q (c.mp z.2))]
  rw [e]; exact hQ
theorem kRad_cg {fd : Int → Prop} {fi se fi' se' : Int → Int} {S : Int → Prop} (hc : ∀ l, S l → fi' l = fi l ∧ se' l = se l) (h : kRad fd fi' se' S) : kRad fd fi se S := fun l hl => by
  obtain ⟨c, c1, c2, c3⟩ := h l hl
  refine ⟨c, c1, by rw [← (hc l hl).1, ← (hc l hl).2]; exact c2, fun l' hl' q => ?_⟩
  rw [← (hc l' hl').1, ← (hc l' hl').2]; exact c3 l' hl' q
theorem mN_l (h : mN N S M) (hk : ∀ l, tbs S l → l < N 4 2) : ∀ l, tbs S l → M 128 l = N 6 l ∧ M 129 l = N 7 l := fun l hl => by
  have := h.2.2 l hl.1.1 (hk l hl)
  exact ⟨this.1, this.2.1⟩
theorem c130' (hW : pW N) (h : mN N S M) (hk : ∀ l, tbs S l → l < N 4 2) (hQ : ∀ M' r, (∀ a, a ≠ 153 → M' a = M a) → ((r = 1 ∧ prad N S) ∨ (r = 0 ∧ ¬ prad N S)) → Q r M') : zF 130 Q [(2, 123)] M := by
  refine c130 (mN_W hW h) (fun M' r h1 h2 => hQ M' r h1 ?_)
  rw [mN_fd hW h, mN_cl h hk] at h2
  have hl := mN_l h hk
  unfold prad
  rcases h2 with ⟨a, b⟩ | ⟨a, b⟩
  · exact Or.inl ⟨a, kRad_cg hl b⟩
  · exact Or.inr ⟨a, fun z => b (kRad_cg (fun l q => ⟨(hl l q).1.symm, (hl l q).2.symm⟩) z)⟩
/-- the ring -/
theorem c138' {t : Int} (hW : pW N) (h : mN N S M) (hk : pok N S) (ht : 0 ≤ t ∧ t < N 4 2) (hQ : ∀ M', zr4 M M' → M' 123 34 = ((kls (prg N S t)).length : Int) → kro (M' 149) 0 (kls (prg N S t)) → Q 0 M') : zF 138 Q [(2, 123), (0, t)] M := by
  refine c138 (mN_W hW h) (by rw [h.1]; exact ht) (fun M' P h1 h2 h3 h4 => ?_)
  have hl := mN_l h hk.1
  have ht' := h.2.2 t ht.1 ht.2
  rw [mN_fd hW h, mN_cl h hk.1] at h4
  have e : prg N S t = P := by
    rcases h4 with q | ⟨q1, c, c1, c2, c3⟩
    · refine prg_of hk.2 (pok_ne hW hk) ⟨kP_cg hl ?_, q.2⟩
      have := q.1
      rw [ht'.1, ht'.2.1] at this
      exact this
    · rw [q1]
      refine prg_no ⟨c, c1, fun l q => ?_, ?_⟩
      · have := c2 l q
        rw [(hl l q).1, (hl l q).2] at this
        exact this
      · rw [ht'.1, ht'.2.1] at c3; exact c3
  rw [← e] at h2 h3
  exact hQ M' h1 (by rw [h2]; unfold kls; rw [List.length_map]) h3
theorem c139 {l : Int} {L : List Int} (hL : M 123 34 = (L.length : Int)) (hr : kro (M 149) 0 L) (hl : L.length ≤ 24) (h0 : l ∉ L → Q 0 M) (h1 : l ∈ L → Q 1 M) : zF 139 Q [(2, 123), (0, l)] M := by
  have done : ∀ (n : Nat) (k : Int), k + n = (L.length : Int) → 0 ≤ k → l ∈ L → zS 139 Q 4 [(2, 123), (0, l), (0, 1), (0, k)] [] M := by
    intro n
    induction n with
    | zero => intro k hk k0 hm; exact s139_4 ⟨fun _ => ⟨Or.inr rfl, h1 hm⟩, fun q => by omega⟩
    | succ n ih =>
      intro k hk k0 hm
      refine s139_4 ⟨fun q => by omega, fun _ => ⟨fun _ => ?_, fun z => absurd z (by decide)⟩⟩
      rw [zw_id (by omega)]
      exact ih (k + 1) (by omega) (by omega) hm
  have key : ∀ (n : Nat) (k : Int), k + n = (L.length : Int) → 0 ≤ k → (∀ i, 0 ≤ i → i < k → ¬ M 149 i = l) → zS 139 Q 4 [(2, 123), (0, l), (0, 0), (0, k)] [] M := by
    intro n
    induction n with
    | zero =>
      intro k hk k0 hi
      refine s139_4 ⟨fun _ => ⟨Or.inl rfl, h0 (fun z => ?_)⟩, fun q => by omega⟩
      obtain ⟨i, i0, i1, i2⟩ := (kro_mem hr l).mp z
      exact hi i i0 (by omega) i2
    | succ n ih =>
      intro k hk k0 hi
      refine s139_4 ⟨fun q => by omega, fun _ => ⟨fun z => absurd rfl z, fun _ => ⟨by omega, fun q => ?_, fun q => ?_⟩⟩⟩
      · rw [zw_id (by omega)]
        refine ih (k + 1) (by omega) (by omega) (fun i a b => ?_)
        by_cases z : i = k
        · rw [z]; exact q
        · exact hi i a (by omega)
      · rw [zw_id (by omega)]
        exact done n (k + 1) (by omega) (by omega) ((kro_mem hr l).mpr ⟨k, k0, by omega, q⟩)
  exact s139_0 (key L.length 0 (by omega) (by omega) (fun i a b => by omega))
end MP
