/-! the reference's orderOf -/
section MO
variable {Q : Int → zM → Prop} {M N : zM} {S : Int}
theorem mN_close {t : Int} (h : mN N S M) (ht : 0 ≤ t ∧ t < N 4 2) (ht2 : t < 32) (hd : ¬ tbs (N 4 4) t) : mN N (zor S (zshl 1 t)) (zset M 132 t 1) := by
  refine ⟨by rw [zrow_o _ (by decide)]; exact h.1, fun v a b => by rw [zrow_o _ (by decide), zrow_o _ (by decide)]; exact h.2.1 v a b, fun l a b => ?_⟩
  obtain ⟨w1, w2, w3, w4, w5, w6, w7, w8⟩ := h.2.2 l a b
  rw [zrow_o _ (by decide), zrow_o _ (by decide), zrow_o _ (by decide), zrow_o _ (by decide), zrow_s, tbs_or, tbs_1 (by omega)]
  refine ⟨w1, w2, w3, w4, ?_⟩
  by_cases e : l = t
  · rw [e, fset_s]
    exact ⟨⟨fun _ => rfl, fun _ => Or.inr rfl⟩, ⟨fun z => absurd z hd, fun z => by omega⟩, by omega, by omega⟩
  · rw [fset_o _ e, ← w5]
    exact ⟨⟨fun z => z.elim id (fun y => absurd y e), Or.inl⟩, w6, w7, w8⟩
theorem c154 {k : Nat} {S0 : Int} (hW : pW N) (h : mN N S0 M) (hp : psx N S0) (hL : zLS M) (ht : ∀ l, tbs (M 123 49) l → l < N 4 2 ∧ ¬ tbs (N 4 4) l) (hr : r32 (M 123 49)) (hk : k < 2147483648)
    (hQ : ∀ M', mfx M M' → mN N S0 M' → zLS M' → Q (pord N k S0 (M 123 49)) M') : zF 154 Q [(2, 123), (0, (k : Int))] M := by
  have hm := hW.1
  have ends : ∀ (M' : zM), mfx M M' → (∃ S, mN N S M') → ∀ v4, v4 = pord N k S0 (M 123 49) → zF 148 (fun _ M3 => Q v4 M3) [(2, 123), (0, S0)] M' := fun M' hM hmN v4 e => by
    obtain ⟨S', hmN⟩ := hmN
    rw [e]
    exact c148 hW hmN hp.1.1 hp.2.1 (fun M3 d1 d2 d3 => hQ M3 (mfx_t hM (mbx_fx d1)) d2 d3)
  have loop : ∀ (n e j : Nat) (M' : zM) (S left : Int), pcard left ≤ n → (e : Int) + pcard left ≤ 24 → e + j = k → mfx M M' → mN N S M' → zLS M' → (∀ l, tbs S l → l < N 4 2) → (∀ l, tbs left l → l < N 4 2 ∧ ¬ tbs (N 4 4) l) → r32 left → pord N j S left = pord N k S0 (M 123 49) → zS 154 Q 16 [(2, 123), (0, (k : Int)), (0, S0), (0, left), (0, -1), (0, (e : Int)), (3, 0), (3, 0)] [] M' := by
    intro n
    induction n with
    | zero =>
      intro e j M' S left h1 h2 h3 hM hmN hLS hS hl hr h4
      have := pcard_nn left
      have nz : ∀ i, ¬ tbs left i := fun i z => pcard_z (by omega) i z.1.1 (by have := hl i z; omega) z
      have el : left = 0 := tbs_ext hr (by unfold r32; omega) (fun i => ⟨fun z => absurd z (nz i), fun z => absurd z (tbs_0 i)⟩)
      have ep : (-1 : Int) = pord N k S0 (M 123 49) := by rw [← h4, pord_n (plow_0 hW nz)]
      exact s154_16 ⟨fun _ => ends M' hM ⟨S, hmN⟩ _ ep, fun _ => ⟨fun _ => ends M' hM ⟨S, hmN⟩ _ ep, fun z => absurd el z⟩⟩
    | succ n ih =>
      intro e j M' S left h1 h2 h3 hM hmN hLS hS hl hr h4
      have hcn := pcard_nn left
      have h33 : M' 123 3 = N 4 2 := hmN.1
      refine s154_16 ⟨fun q => by omega, fun _ => ⟨fun q => ?_, fun q => ?_⟩⟩
      · refine ends M' hM ⟨S, hmN⟩ _ ?_
        rw [← h4, pord_n (plow_0 hW (fun i => by rw [q]; exact tbs_0 i))]
      · have bit : ∃ i, tbs left i := Classical.byContradiction fun z => q (tbs_ext hr (by unfold r32; omega) (fun i => ⟨fun y => absurd ⟨i, y⟩ z, fun y => absurd y (tbs_0 i)⟩))
        have hpos : 0 < pcard left := by
          obtain ⟨i, hi⟩ := bit
          exact pcard_p hi (by have := hl i hi; omega)
        have none : plow N S left = -1 → zS 154 Q 16 [(2, 123), (0, (k : Int)), (0, S0), (0, 0), (0, -1), (0, zw ((e : Int) + 1)), (3, 0), (3, 0)] [] M' := fun z => by
          rw [zw_id (by omega)]
          have ep : (-1 : Int) = pord N k S0 (M 123 49) := by rw [← h4, pord_n z]
          exact s154_16 ⟨fun _ => ends M' hM ⟨S, hmN⟩ _ ep, fun _ => ⟨fun _ => ends M' hM ⟨S, hmN⟩ _ ep, fun z => absurd rfl z⟩⟩
        have found : ∀ t : Int, plow N S left = t → ¬ t = -1 → (0 ≤ t ∧ t < 24) ∧ zF 118 (fun _ M4 => ((¬ (e : Int) = (k : Int) → zS 154 Q 16 [(2, 123), (0, (k : Int)), (0, S0), (0, zand left (zxor (zshl 1 t) (-1))), (0, (-1)), (0, zw ((e : Int) + 1)), (3, 0), (3, 0)] [] M4) ∧ ((e : Int) = (k : Int) → zS 154 Q 16 [(2, 123), (0, (k : Int)), (0, S0), (0, zand left (zxor (zshl 1 t) (-1))), (0, t), (0, zw ((e : Int) + 1)), (3, 0), (3, 0)] [] M4))) [(2, 123)] (zset M' 132 t 1) := fun t et hne => by
          have hne' : ¬ plow N S left = -1 := by rw [et]; exact hne
          obtain ⟨p1, p2⟩ := plow_in hW hne'
          rw [et] at p1 p2
          refine ⟨by omega, c118' hW (mN_close hmN p1 (by omega) (hl t p2.1).2) (fun M4 a1 a2 a3 => ?_)⟩
          have f4 : mfx M M4 := mfx_t (mfx_s hM (by omega)) (mfx_f (mfr_7 a1))
          rw [zw_id (by omega)]
          refine ⟨fun y => ?_, fun y => ?_⟩
          · obtain ⟨j', rfl⟩ : ∃ j', j = j' + 1 := ⟨j - 1, by omega⟩
            have ee : pord N (j' + 1) S left = if plow N S left = -1 then -1 else pord N j' (zor S (zshl 1 (plow N S left))) (zand left (zxor (zshl 1 (plow N S left)) (-1))) := rfl
            rw [ee, if_neg hne', et] at h4
            have hcd := pcard_del (x := left) (t := t) (by omega) p2.1
            refine ih (e + 1) j' M4 _ _ (by omega) (by omega) (by omega) f4 a2 a3 (fun l hl' => ?_) (fun l hl' => ?_) (zand_r _ _) h4
            · rcases tbs_or.mp hl' with w | w
              · exact hS l w
              · rw [tbs_1 (by omega)] at w; rw [w]; exact p1.2
            · exact hl l (((tbs_del (by omega)).mp hl').1)
          · have : j = 0 := by omega
            subst this
            have ee : pord N 0 S left = plow N S left := rfl
            rw [ee, et] at h4
            exact s154_16 ⟨fun _ => ends M4 f4 ⟨_, a2⟩ _ h4, fun z => by omega⟩
        have inner : ∀ (m t : Nat), ((t : Nat) : Int) + m = N 4 2 → plw N S left t = -1 → zS 154 Q 32 [(2, 123), (0, (k : Int)), (0, S0), (0, left), (0, -1), (0, (e : Int)), (0, (t : Int)), (3, 0)] [] M' := by
          intro m
          induction m with
          | zero =>
            intro t ht h5
            have pl : plow N S left = -1 := by unfold plow; rw [show (N 4 2).toNat = t by omega]; exact h5
            exact s154_32 ⟨fun _ => ⟨fun z => absurd rfl z, fun _ => ⟨fun _ => none pl, fun _ => none pl⟩⟩, fun z => by omega⟩
          | succ m ihm =>
            intro t ht h5
            have ht' : 0 ≤ ((t : Nat) : Int) ∧ ((t : Nat) : Int) < N 4 2 := by omega
            have w := hmN.2.2 t ht'.1 ht'.2
            have hw := (hW.2.2.2.2 t ht'.1 ht'.2).1
            have skip : ¬ plP N S left t → zS 154 Q 32 [(2, 123), (0, (k : Int)), (0, S0), (0, left), (0, -1), (0, (e : Int)), (0, zw ((t : Int) + 1)), (3, 0)] [] M' := fun z => by
              rw [zw_id (by omega)]
              exact ihm (t + 1) (by omega) (by rw [plw_s, if_pos h5, if_neg z])
            have got : plP N S left t → zS 154 Q 32 [(2, 123), (0, (k : Int)), (0, S0), (0, left), (0, (t : Int)), (0, (e : Int)), (0, zw ((t : Int) + 1)), (3, 0)] [] M' := fun z => by
              have e1 : plw N S left (t + 1) = t := by rw [plw_s, if_pos h5, if_pos z]
              have e2 := plw_stop (t := t + 1) (N := N) (S := S) (left := left) (by rw [e1]; omega) m
              have pl : plow N S left = t := by unfold plow; rw [show (N 4 2).toNat = t + 1 + m by omega, e2, e1]
              have := found t pl (by omega)
              exact s154_32 ⟨fun _ => ⟨fun _ => this, fun y => by omega⟩, fun _ => ⟨fun _ => this, fun y => by omega⟩⟩
            refine s154_32 ⟨fun z => by omega, fun _ => ⟨fun z => absurd rfl z, fun _ => ⟨fun z => skip (fun y => z ((tbs_sh1 (by omega)).mpr y.1)), fun z => ⟨by omega, ?_⟩⟩⟩⟩
            rw [tbs_sh1 (by omega)] at z
            rw [w.1, w.2.1]
            refine ⟨hw.1, fun y => got ⟨z, Or.inl ((mN_li hW hmN hS hLS hw.1.1 hw.1.2).mp y)⟩, fun y => ⟨hw.2.1, fun y2 => skip (fun x => ?_), fun y2 => got ⟨z, Or.inr ((mN_li hW hmN hS hLS hw.2.1.1 hw.2.1.2).mp y2)⟩⟩⟩
            rcases x.2 with x | x
            · exact (mN_li hW hmN hS hLS hw.1.1 hw.1.2).mpr x y
            · exact (mN_li hW hmN hS hLS hw.2.1.1 hw.2.1.2).mpr x y2
        exact inner (N 4 2).toNat 0 (by omega) rfl
  have hcn := pcard_nn (M 123 49)
  refine s154_0 (c147' hW h hp.1.1 hp.2.2 ?_)
  exact loop 24 0 k M S0 (M 123 49) (by omega) (by omega) (by omega) mfx_r h hL hp.1.1 ht hr rfl
end MO
