/-! told, all -/
def vTd (M : zM) (i : Int) : Int := if i < 4 then M 2 i else if i = 4 then M 1 2 else if i = 5 then pcard (M 4 0) else if i = 6 then M 4 2 else M 28 1
section OP9
variable {M : zM} {a1 a2 : Int}
theorem c89 {Q : Int → zM → Prop} (h : Inv M) (hb : ¬ (0 ≤ a1 ∧ a1 ≤ 7) → zF 91 Q [(2, 1), (0, -2)] M) (hg : (0 ≤ a1 ∧ a1 ≤ 7) → Q (vTd M a1) M) : zF 89 Q [(2, 1), (0, a1)] M := by
  obtain ⟨A, hA, ⟨hcP, hn, ⟨hF, hF2⟩, hk⟩, ⟨hmP, hmN, hLS⟩, hT, hR⟩ := id h
  obtain ⟨hW, hp, hd, hr0, hr1, hr4⟩ := id hn
  unfold vTd at hg
  refine s89_0 ⟨fun y => ⟨by omega, ?_⟩, fun y0 => ⟨fun y => ⟨by omega, ?_⟩, fun y1 => ⟨fun y => ⟨by omega, ?_⟩, fun y2 => ⟨fun y => ⟨by omega, ?_⟩, fun y3 => ⟨fun y => ?_, fun y4 => ⟨fun y => c164' hr0 (fun i hi => by have := hW.2.1 i hi; omega) ?_, fun y5 => ⟨fun y => ?_, fun y6 => ⟨fun y => ?_, fun y7 => hb (by omega)⟩⟩⟩⟩⟩⟩⟩⟩
  · have g := hg (by omega); rwa [if_pos (by omega)] at g
  · have g := hg (by omega); rwa [if_pos (by omega)] at g
  · have g := hg (by omega); rwa [if_pos (by omega)] at g
  · have g := hg (by omega); rwa [if_pos (by omega)] at g
  · have g := hg (by omega); rwa [if_neg (by omega), if_pos y] at g
  · have g := hg (by omega); rwa [if_neg (by omega), if_neg (by omega), if_pos y] at g
  · have g := hg (by omega); rwa [if_neg (by omega), if_neg (by omega), if_neg (by omega), if_pos y] at g
  · have g := hg (by omega); rwa [if_neg (by omega), if_neg (by omega), if_neg (by omega), if_neg (by omega)] at g
theorem pcard_16 {x : Int} {f : Int → Int} (hx : ∀ v, tbs x v → v < 16) (hf : ∀ v, 0 ≤ v → v < 16 → (tbs x v ↔ ¬ f v = 0)) : pcard x = zsum (fun v => if f v = 0 then 0 else 1) 16 := by
  unfold pcard
  rw [zsum_ext (m := 16) 24 (by omega) (fun i a b => by rw [if_neg (fun z => by have := hx i ⟨by omega, z⟩; omega)])]
  refine zsum_congr _ (fun i hi => ?_)
  have := hf i (by omega) (by omega)
  by_cases q : f i = 0
  · rw [if_pos q, if_neg (fun z => this.mp ⟨by omega, z⟩ q)]
  · rw [if_neg q, if_pos (this.mpr q).2]
theorem c161 {Qm : Int → zM → Prop} {M1 : zM} (h : Inv M) (h1 : mst M M1) (ha : 0 ≤ a1 ∧ a1 ≤ 7) (hg : Qm (vTd M a1) M1) : zF 161 Qm [(2, 123), (0, a1)] M1 := by
  obtain ⟨A, hA, ⟨hcP, hn, ⟨hF, hF2⟩, hk⟩, ⟨hmP, hmN, hLS⟩, hT, hR⟩ := id h
  obtain ⟨hW, hp, hd, hr0, hr1, hr4⟩ := id hn
  have h123 := h1.2.2 123 (by omega)
  unfold vTd at hg
  refine s161_0 ⟨fun q => ?_, fun q => ⟨by omega, ?_⟩⟩
  · rw [if_neg q] at hg
    have e5 : pcard (M 4 0) = zsum (fun v => if M1 126 v = 0 then 0 else 1) 16 := pcard_16 hW.2.1 (fun v v0 v1 => by
      have := (h1.1.2.1 v v0 v1).2.1
      rw [pnet_40] at this; exact this)
    have hnn : ∀ n : Nat, n ≤ 16 → 0 ≤ zsum (fun v => if M1 126 v = 0 then 0 else 1) n ∧ zsum (fun v => if M1 126 v = 0 then 0 else 1) n ≤ 1 * n := fun n _ => zsum_b n (fun i _ => by split <;> omega)
    have loop : ∀ (n k : Nat), k + n = 16 → zS 161 Qm 16 [(2, 123), (0, a1), (0, zsum (fun v => if M1 126 v = 0 then 0 else 1) k), (0, (k : Int))] [] M1 := by
      intro n
      induction n with
      | zero =>
        intro k hk
        have : k = 16 := by omega
        subst this
        refine s161_16 ⟨fun _ => ⟨fun y4 => ⟨fun y5 => ⟨fun y6 => ?_, fun y6 => ?_⟩, fun y5 => ?_⟩, fun y4 => ?_⟩, fun z => by omega⟩
        · rw [if_neg y4, if_neg y5, if_neg y6] at hg
          rw [h123, hmP.1, ← hcP.1.1]; exact hg
        · rw [if_neg y4, if_neg y5, if_pos y6] at hg
          rw [h1.1.1, pnet_42]; exact hg
        · rw [if_neg y4, if_pos y5, e5] at hg; exact hg
        · rw [if_pos y4] at hg
          rw [h123, hT.2.1]; exact hg
      | succ n ih =>
        intro k hk
        have b := hnn k (by omega)
        have e : zsum (fun v => if M1 126 v = 0 then 0 else 1) (k + 1) = zsum (fun v => if M1 126 v = 0 then 0 else 1) k + (if M1 126 k = 0 then 0 else 1) := rfl
        have := ih (k + 1) (by omega)
        rw [e] at this
        refine s161_16 ⟨fun z => by omega, fun _ => ⟨by omega, fun z => ?_, fun z => ?_⟩⟩
        · rw [if_pos z] at this
          rw [zw_id (x := (k : Int) + 1) (by omega), zw_id (by omega)]; exact this
        · rw [if_neg z] at this
          rw [zw_id (x := (k : Int) + 1) (by omega), zw_id (by omega)]; exact this
    exact loop 16 0 (by omega)
  · rw [if_pos q] at hg
    rw [h1.2.2 124 (by omega), ← hR a1 ha.1 q]; exact hg
theorem op_told (h : Inv M) : opk 89 162 [(0, a1)] M := by
  refine c89 h (fun z => refuse2 h (cro_r h) (by omega) (fun M2 Qm b1 b2 => s162_0 (c98 ⟨fun _ => b2 M2 mfx_r b1.1 b1.2.1, fun y => absurd (if_neg z) y⟩))) (fun g => s162_0 (c98 ⟨fun y => by (rw [if_pos g] at y; exact absurd y (by decide)), fun _ => c161 h (mst_of h (fun _ _ => rfl)) g ⟨rfl, h⟩⟩))
/-! all -/
def phv (fd : Int → Bool) (be : Int → Int) : Nat → Int
  | 0 => -1
  | v + 1 => if fd v = true ∧ (phv fd be v = -1 ∨ be (phv fd be v) < be v) then (v : Int) else phv fd be v
theorem phv_in {fd : Int → Bool} {be : Int → Int} : ∀ n : Nat, phv fd be n = -1 ∨ ((0 ≤ phv fd be n ∧ phv fd be n < n) ∧ fd (phv fd be n) = true)
  | 0 => Or.inl rfl
  | v + 1 => by
    have ih := phv_in (fd := fd) (be := be) v
    show (if fd v = true ∧ (phv fd be v = -1 ∨ be (phv fd be v) < be v) then (v : Int) else phv fd be v) = -1 ∨ ((0 ≤ (if fd v = true ∧ (phv fd be v = -1 ∨ be (phv fd be v) < be v) then (v : Int) else phv fd be v) ∧ (if fd v = true ∧ (phv fd be v = -1 ∨ be (phv fd be v) < be v) then (v : Int) else phv fd be v) < (v + 1 : Nat)) ∧ fd (if fd v = true ∧ (phv fd be v = -1 ∨ be (phv fd be v) < be v) then (v : Int) else phv fd be v) = true)
    by_cases q : fd v = true ∧ (phv fd be v = -1 ∨ be (phv fd be v) < be v)
    · rw [if_pos q]; exact Or.inr ⟨by omega, q.1⟩
    · rw [if_neg q]
      rcases ih with z | z
      · exact Or.inl z
      · exact Or.inr ⟨by omega, z.2⟩
theorem phv_s {fd : Int → Bool} {be : Int → Int} (v : Nat) : phv fd be (v + 1) = if fd v = true ∧ (phv fd be v = -1 ∨ be (phv fd be v) < be v) then (v : Int) else phv fd be v := rfl
theorem phv_no {fd : Int → Bool} {be : Int → Int} : ∀ n : Nat, phv fd be n = -1 → ∀ v : Nat, v < n → ¬ fd v = true
  | 0, _, v, hv => by omega
  | n + 1, h, v, hv => by
    rw [phv_s] at h
    by_cases q : fd n = true ∧ (phv fd be n = -1 ∨ be (phv fd be n) < be n)
    · rw [if_pos q] at h; omega
    · rw [if_neg q] at h
      by_cases e : v = n
      · subst e; exact fun z => q ⟨z, Or.inl h⟩
      · exact phv_no n h v (by omega)
theorem phv_cg {fd : Int → Bool} {be be' : Int → Int} {m : Nat} (h : ∀ v : Int, 0 ≤ v → v < m → fd v = true → be v = be' v) : ∀ n : Nat, n ≤ m → phv fd be n = phv fd be' n
  | 0, _ => rfl
  | n + 1, hn => by
    have ih := phv_cg h n (by omega)
    rw [phv_s, phv_s, ← ih]
    by_cases q : fd n = true
    · have e1 := h n (by omega) (by omega) q
      rcases phv_in (fd := fd) (be := be) n with z | z
      · rw [z]
        simp [q]
      · have e2 := h (phv fd be n) z.1.1 (by omega) z.2
        rw [e1, e2]
    · rw [if_neg (fun z => q z.1), if_neg (fun z => q z.1)]
theorem c5 {Q : Int → zM → Prop} (hQ : Q (phv (tb (M 4 1)) (M 16) 16) M) : zF 5 Q [(2, 12), (2, 4)] M := by
  have loop : ∀ (n v : Nat), v + n = 16 → zS 5 Q 4 [(2, 12), (2, 4), (0, phv (tb (M 4 1)) (M 16) v), (0, (v : Int))] [] M := by
    intro n
    induction n with
    | zero =>
      intro v hv
      have : v = 16 := by omega
      subst this
      exact s5_4 rfl ⟨fun _ => hQ, fun z => by omega⟩
    | succ n ih =>
      intro v hv
      have nx := ih (v + 1) (by omega)
      rw [phv_s] at nx
      have hin := phv_in (fd := tb (M 4 1)) (be := M 16) v
      refine s5_4 rfl ⟨fun z => by omega, fun _ => c19 rfl (by omega) (fun z => ⟨fun _ => ?_, fun y => absurd rfl y⟩) (fun z => ⟨fun y => absurd y (by decide), fun _ => ⟨fun y => ?_, fun y => ?_⟩⟩)⟩
      · rw [if_neg (fun x => z ⟨by omega, x.1⟩)] at nx
        rw [zw_id (by omega)]; exact nx
      · rw [if_pos ⟨z.2, Or.inl y⟩] at nx
        rw [zw_id (by omega)]; exact nx
      · have hb : 0 ≤ phv (tb (M 4 1)) (M 16) v ∧ phv (tb (M 4 1)) (M 16) v < 16 := by
          rcases hin with w | w
          · exact absurd w y
          · omega
        refine ⟨by omega, hb, fun w => ?_, fun w => ?_⟩
        · rw [if_neg (fun x => x.2.elim y w)] at nx
          rw [zw_id (by omega)]; exact nx
        · rw [if_pos ⟨z.2, Or.inr w⟩] at nx
          rw [zw_id (by omega)]; exact nx
  exact s5_0 rfl (loop 16 0 (by omega))
theorem c157 {Qm : Int → zM → Prop} {M1 : zM} (hk : ∀ v : Int, 0 ≤ v → v < 16 → (tb (M 4 1) v = true ↔ M1 126 v = 1)) (hQ : Qm (phv (tb (M 4 1)) (M1 145) 16) M1) : zF 157 Qm [(2, 123)] M1 := by
  have loop : ∀ (n v : Nat), v + n = 16 → zS 157 Qm 4 [(2, 123), (0, phv (tb (M 4 1)) (M1 145) v), (0, (v : Int))] [] M1 := by
    intro n
    induction n with
    | zero =>
      intro v hv
      have : v = 16 := by omega
      subst this
      exact s157_4 ⟨fun _ => hQ, fun z => by omega⟩
    | succ n ih =>
      intro v hv
      have nx := ih (v + 1) (by omega)
      rw [phv_s] at nx
      have hin := phv_in (fd := tb (M 4 1)) (be := M1 145) v
      have hkv := hk v (by omega) (by omega)
      refine s157_4 ⟨fun z => by omega, fun _ => ⟨by omega, fun z => ?_, fun z => ⟨fun y => ?_, fun y => ?_⟩⟩⟩
      · rw [if_neg (fun x => z (hkv.mp x.1))] at nx
        rw [zw_id (by omega)]; exact nx
      · rw [if_pos ⟨hkv.mpr z, Or.inl y⟩] at nx
        rw [zw_id (by omega)]; exact nx
      · have hb : 0 ≤ phv (tb (M 4 1)) (M1 145) v ∧ phv (tb (M 4 1)) (M1 145) v < 16 := by
          rcases hin with w | w
          · exact absurd w y
          · omega
        refine ⟨hb, fun w => ?_, fun w => ?_⟩
        · rw [if_neg (fun x => x.2.elim y w)] at nx
          rw [zw_id (by omega)]; exact nx
        · rw [if_pos ⟨hkv.mpr z, Or.inr w⟩] at nx
          rw [zw_id (by omega)]; exact nx
  exact s157_0 (loop 16 0 (by omega))
theorem c24 {Q : Int → zM → Prop} {x : Int} (hl : ∀ v, 0 ≤ v → v < 16 → 0 ≤ M 5 v ∧ M 5 v ≤ 99) (hQ : Q (zsum (fun v => if tb x v = true then M 5 v else 0) 16) M) : zF 24 Q [(2, 4), (0, x)] M := by
  have hb : ∀ n : Nat, n ≤ 16 → 0 ≤ zsum (fun v => if tb x v = true then M 5 v else 0) n ∧ zsum (fun v => if tb x v = true then M 5 v else 0) n ≤ 99 * n := fun n hn => zsum_b n (fun i hi => by have := hl i (by omega) (by omega); split <;> omega)
  have loop : ∀ (n v : Nat), v + n = 16 → zS 24 Q 4 [(2, 4), (0, x), (0, zsum (fun v => if tb x v = true then M 5 v else 0) v), (0, (v : Int))] [] M := by
    intro n
    induction n with
    | zero =>
      intro v hv
      have : v = 16 := by omega
      subst this
      exact s24_4 rfl ⟨fun _ => hQ, fun z => by omega⟩
    | succ n ih =>
      intro v hv
      have e : zsum (fun v => if tb x v = true then M 5 v else 0) (v + 1) = zsum (fun v => if tb x v = true then M 5 v else 0) v + (if tb x v = true then M 5 v else 0) := rfl
      have nx := ih (v + 1) (by omega)
      rw [e] at nx
      have b1 := hb v (by omega)
      have b2 := hl v (by omega) (by omega)
      refine s24_4 rfl ⟨fun z => by omega, fun _ => ⟨fun z => ?_, fun z => ⟨by omega, ?_⟩⟩⟩
      · rw [tbs_shr (by omega)] at z
        rw [if_neg (fun y => z ⟨by omega, y⟩), Int.add_zero] at nx
        rw [zw_id (by omega)]; exact nx
      · rw [tbs_shr (by omega), Classical.not_not] at z
        rw [if_pos z.2] at nx
        rw [zw_id (x := (v : Int) + 1) (by omega), show M (4 + 1) v = M 5 v from rfl, zw_id (by omega)]; exact nx
  exact s24_0 rfl (loop 16 0 (by omega))
theorem c158 {Qm : Int → zM → Prop} {M1 : zM} {f : Int → Int} (hl : ∀ v, 0 ≤ v → v < 16 → 0 ≤ f v ∧ f v ≤ 99) (hf : ∀ v, 0 ≤ v → v < 16 → f v = if M1 126 v = 2 ∧ M1 142 v = -1 then (if a1 = 2 then M1 127 v else 1) else 0) (hQ : Qm (zsum f 16) M1) : zF 158 Qm [(2, 123), (0, a1)] M1 := by
  have hb : ∀ n : Nat, n ≤ 16 → 0 ≤ zsum f n ∧ zsum f n ≤ 99 * n := fun n hn => zsum_b n (fun i hi => hl i (by omega) (by omega))
  have loop : ∀ (n v : Nat), v + n = 16 → zS 158 Qm 4 [(2, 123), (0, a1), (0, zsum f v), (0, (v : Int)), (3, 0)] [] M1 := by
    intro n
    induction n with
    | zero =>
      intro v hv
      have : v = 16 := by omega
      subst this
      exact s158_4 ⟨fun _ => hQ, fun z => by omega⟩
    | succ n ih =>
      intro v hv
      have e : zsum f (v + 1) = zsum f v + f v := rfl
      have nx := ih (v + 1) (by omega)
      have hfv := hf v (by omega) (by omega)
      have b1 := hb v (by omega)
      have b2 := hl v (by omega) (by omega)
      rw [e, hfv] at nx
      rw [hfv] at b2
      refine s158_4 ⟨fun z => by omega, fun _ => ⟨by omega, fun z => ?_, fun z => ⟨fun z2 => ?_, fun z2 => ⟨fun z3 => ?_, fun z3 => ?_⟩⟩⟩⟩
      · rw [if_neg (fun y => z y.1)] at nx
        rw [zw_id (x := (v : Int) + 1) (by omega), zw_id (by omega)]; exact nx
      · rw [if_neg (fun y => z2 y.2)] at nx
        rw [zw_id (x := (v : Int) + 1) (by omega), zw_id (by omega)]; exact nx
      · rw [if_pos ⟨z, z2⟩, if_neg z3] at nx
        rw [zw_id (x := (v : Int) + 1) (by omega), zw_id (by omega)]; exact nx
      · rw [if_pos ⟨z, z2⟩, if_pos z3] at nx b2
        rw [zw_id (x := (v : Int) + 1) (by omega), zw_id (by omega)]; exact nx
  exact s158_0 (loop 16 0 (by omega))
theorem c6 {Q : Int → zM → Prop} {x : Int} (hW : zWC M) (hf : ∀ l, 0 ≤ l → l < 24 → 0 ≤ M 17 l ∧ M 17 l ≤ 1584) (hn : ∀ l, 0 ≤ l → l < 24 → M 18 l = -1 ∨ (0 ≤ M 18 l ∧ M 18 l < 16)) (hQ : Q (zsum (fun l => if ¬ M 18 l = -1 ∧ M 13 (M 18 l) = x then M 8 l * M 17 l * M 17 l else 0) (M 4 2).toNat) M) : zF 6 Q [(2, 12), (2, 4), (0, x)] M := by
  have hm := hW.1
  have one : ∀ k : Nat, k < (M 4 2).toNat → (0 ≤ M 8 k * M 17 k * M 17 k ∧ M 8 k * M 17 k * M 17 k ≤ 248396544) := fun k hk => by
    have w2 := (hW.2.2.2.2.1 k (by omega) (by omega)).2.1
    have w3 := hf k (by omega) (by omega)
    have a0 : 0 ≤ M 8 k * M 17 k := Int.mul_nonneg (by omega) w3.1
    have a1 : M 8 k * M 17 k ≤ 99 * 1584 := Int.mul_le_mul w2.2 w3.2 w3.1 (by omega)
    have b0 : 0 ≤ M 8 k * M 17 k * M 17 k := Int.mul_nonneg a0 w3.1
    have b1 : M 8 k * M 17 k * M 17 k ≤ 99 * 1584 * 1584 := Int.mul_le_mul a1 w3.2 w3.1 (by omega)
    exact ⟨b0, by omega⟩
  have hb : ∀ n : Nat, n ≤ (M 4 2).toNat → 0 ≤ zsum (fun l => if ¬ M 18 l = -1 ∧ M 13 (M 18 l) = x then M 8 l * M 17 l * M 17 l else 0) n ∧ zsum (fun l => if ¬ M 18 l = -1 ∧ M 13 (M 18 l) = x then M 8 l * M 17 l * M 17 l else 0) n ≤ 248396544 * n := fun n hn' => zsum_b n (fun i hi => by
    have := one i (by omega)
    split <;> omega)
  have loop : ∀ (n k : Nat), ((k : Nat) : Int) + n = M 4 2 → zS 6 Q 5 [(2, 12), (2, 4), (0, x), (1, zsum (fun l => if ¬ M 18 l = -1 ∧ M 13 (M 18 l) = x then M 8 l * M 17 l * M 17 l else 0) k), (3, 0), (0, (k : Int)), (3, 0)] [] M := by
    intro n
    induction n with
    | zero =>
      intro k hk
      rw [show k = (M 4 2).toNat by omega]
      exact s6_5 rfl ⟨fun _ => hQ, fun z => by omega⟩
    | succ n ih =>
      intro k hk
      have e : zsum (fun l => if ¬ M 18 l = -1 ∧ M 13 (M 18 l) = x then M 8 l * M 17 l * M 17 l else 0) (k + 1) = zsum (fun l => if ¬ M 18 l = -1 ∧ M 13 (M 18 l) = x then M 8 l * M 17 l * M 17 l else 0) k + (if ¬ M 18 k = -1 ∧ M 13 (M 18 k) = x then M 8 k * M 17 k * M 17 k else 0) := rfl
      have nx := ih (k + 1) (by omega)
      rw [e] at nx
      have b1 := hb k (by omega)
      have b2 := one k (by omega)
      have b3 := hn k (by omega) (by omega)
      refine s6_5 rfl ⟨fun z => by omega, fun _ => ⟨by omega, fun z => ?_, fun z => ⟨?_, fun z2 => ?_, fun z2 => ?_⟩⟩⟩
      · have z : M 18 k = -1 := z
        rw [if_neg (fun y => y.1 z), Int.add_zero] at nx
        rw [zw_id (by omega)]; exact nx
      · show 0 ≤ M 18 k ∧ M 18 k < 16
        have z : ¬ M 18 k = -1 := z
        omega
      · have z2 : ¬ M 13 (M 18 k) = x := z2
        rw [if_neg (fun y => z2 y.2), Int.add_zero] at nx
        rw [zw_id (by omega)]; exact nx
      · have z2 : M 13 (M 18 k) = x := z2
        have z : ¬ M 18 k = -1 := z
        rw [if_pos ⟨z, z2⟩] at nx
        refine c12 (f := 12) rfl (by omega) (hW.2.2.2.2.1 k (by omega) (by omega)).2.1 (hf k (by omega) (by omega)) ?_
        rw [zw_id (by omega)]
        show zS 6 Q 5 [(2, 12), (2, 4), (0, x), (1, zW (_ + M 8 k * M 17 k * M 17 k)), (3, 0), (0, (k : Int) + 1), (3, 0)] [] M
        rw [zW_id (by omega)]; exact nx
  exact s6_0 rfl (loop (M 4 2).toNat 0 (by omega))
end OP9
