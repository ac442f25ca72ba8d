/-! the invariant of both objects; what a call that changes no net leaves -/
def iK (M : zM) : Prop := (M 97 8 = -1 ∨ ∃ n : Nat, n ≤ 9 ∧ M 97 8 = (n : Int) ∧ zse (pnet M) M (pre (pnet M) (M 4 3) n)) ∧ (M 112 7 = 0 ∨ zrk (pnet M) (M 4 3) M)
def cI (M : zM) (A : List zM) : Prop := cP M A ∧ nst M ∧ (zFO M 12 ∧ M 12 0 = M 4 3) ∧ iK M
def tI (M : zM) : Prop := (0 ≤ M 1 2 ∧ M 1 2 ≤ 200) ∧ M 123 2 = M 1 2 ∧ ∀ i, 0 ≤ i → i < M 1 2 → M 125 i = M 3 i ∧ 0 ≤ M 3 i ∧ M 3 i ≤ 127
def mI (N : zM) (S : Int) (M : zM) (A : List zM) : Prop := mP M A ∧ mN N S M ∧ zLS M
def Inv (M : zM) : Prop := ∃ A, (∀ X, X ∈ A → nst X) ∧ cI M A ∧ mI (pnet M) (M 4 3) M A ∧ tI M ∧ ∀ j, 0 ≤ j → j < 4 → M 2 j = M 124 j
theorem cP_cg {M M' : zM} {A : List zM} (h : cP M A) (hr : ∀ a, 28 ≤ a → a ≤ 77 → M' a = M a) : cP M' A := by
  obtain ⟨h1, h2, h3, h4⟩ := h
  have e28 := hr 28 (by omega) (by omega)
  have e29 := hr 29 (by omega) (by omega)
  refine ⟨by rw [e28]; exact h1, by rw [e29]; exact h2, by rw [e29]; exact h3, fun k hk => ?_⟩
  rw [e29]
  have hz := h2 k (by omega) (by omega)
  unfold zkr at hz
  exact shn_cg (M := M) (fun a p q => hr a (by omega) (by omega)) (h4 k hk)
theorem mP_cg {M M' : zM} {A : List zM} (h : mP M A) (h11 : M' 123 11 = M 123 11) (h133 : M' 133 = M 133) : mP M' A := by
  obtain ⟨h1, h2, h3⟩ := h
  refine ⟨by rw [h11]; exact h1, h2, fun k hk => ?_⟩
  have : mvw M' (153 * (k : Int)) = mvw M (153 * (k : Int)) := by funext a i; unfold mvw; rw [h133]
  rw [this]
  exact h3 k hk
theorem nst_cg {M M' : zM} (h : nst M) (hr : ∀ a, 4 ≤ a → a ≤ 11 → M' a = M a) : nst M' := nst_neq h (neq_cg neq_r hr)
theorem Inv_step {M M' : zM} (h : Inv M) (hc : ∀ a, 0 < a → a < 78 → a ≠ 2 → ¬ (20 ≤ a ∧ a ≤ 27) → M' a = M a) (hk : iK M') (h2 : M' 123 2 = M 123 2) (h11 : M' 123 11 = M 123 11) (h125 : M' 125 = M 125) (h133 : M' 133 = M 133) (hN : mN (pnet M) (M 4 3) M') (hL : zLS M') (hr : ∀ j, 0 ≤ j → j < 4 → M' 2 j = M' 124 j) : Inv M' := by
  obtain ⟨A, a1, ⟨b1, b2, b3, b4⟩, ⟨c1, c2, c3⟩, ⟨d1, d2, d3⟩, e⟩ := h
  have r4 : ∀ a, 4 ≤ a → a ≤ 11 → M' a = M a := fun a p q => hc a (by omega) (by omega) (by omega) (by omega)
  have hp : pnet M' = pnet M := pnet_cg r4
  have e4 : M' 4 = M 4 := r4 4 (by omega) (by omega)
  have e1 : M' 1 = M 1 := hc 1 (by omega) (by omega) (by omega) (by omega)
  have e3 : M' 3 = M 3 := hc 3 (by omega) (by omega) (by omega) (by omega)
  refine ⟨A, a1, ⟨cP_cg b1 (fun a p q => hc a (by omega) (by omega) (by omega) (by omega)), nst_cg b2 r4, ⟨zFO_cg b3.1 r4 (fun a p q => hc a (by omega) (by omega) (by omega) (by omega)), by rw [hc 12 (by omega) (by omega) (by omega) (by omega), e4]; exact b3.2⟩, hk⟩, ⟨mP_cg c1 h11 h133, by rw [hp, e4]; exact hN, hL⟩, ⟨by rw [e1]; exact d1, by rw [h2, e1]; exact d2, by rw [e1, e3, h125]; exact d3⟩, hr⟩
/-- a call of the class that changes no net -/
def cro (M M1 : zM) : Prop := (∀ a, ¬ (20 ≤ a ∧ a ≤ 27) → ¬ (78 ≤ a ∧ a ≤ 122) → M1 a = M a) ∧ iK M1
theorem Inv_iK {M : zM} (h : Inv M) : iK M := by
  obtain ⟨A, a1, ⟨b1, b2, b3, b4⟩, _⟩ := h
  exact b4
theorem cro_r {M : zM} (h : Inv M) : cro M M := ⟨fun _ _ _ => rfl, Inv_iK h⟩
theorem iK_cg {M M' : zM} (h : iK M) (r4 : ∀ a, 4 ≤ a → a ≤ 9 → M' a = M a) (hr : ∀ a, 97 ≤ a → a ≤ 99 → M' a = M a) (h112 : M' 112 = M 112) : iK M' := by
  have hp : pnet M' = pnet M := pnet_eq (fun i _ => by rw [r4 4 (by omega) (by omega)]) (fun a p q => r4 a (by omega) q)
  have e4 : M' 4 = M 4 := r4 4 (by omega) (by omega)
  obtain ⟨a, b⟩ := h
  refine ⟨?_, ?_⟩
  · rw [hp, e4, hr 97 (by omega) (by omega)]
    rcases a with z | ⟨n, z1, z2, z3⟩
    · exact Or.inl z
    · exact Or.inr ⟨n, z1, z2, zse_cg z3 (fun i _ _ => by rw [hr 97 (by omega) (by omega)]) (hr 98 (by omega) (by omega)) (hr 99 (by omega) (by omega))⟩
  · unfold zrk at b ⊢
    rw [hp, e4, h112]; exact b
theorem fin_ro {M M1 M2 : zM} (h : Inv M) (h1 : cro M M1) (h2 : mfx M1 M2) (hN : mN (pnet M) (M 4 3) M2) (hL : zLS M2) : Inv M2 := by
  have lo : ∀ a, a < 123 → M2 a = M1 a := fun a ha => mfx_row h2 (by omega) (by omega) (by omega)
  have hi : ∀ a, 123 ≤ a → M1 a = M a := fun a ha => h1.1 a (by omega) (by omega)
  refine Inv_step h (fun a p q r s => by rw [lo a (by omega), h1.1 a s (by omega)]) (iK_cg h1.2 (fun a p q => lo a (by omega)) (fun a p q => lo a (by omega)) (lo 112 (by omega))) (by rw [h2 123 2 (by omega) (by omega) (by omega), hi 123 (by omega)]) (by rw [h2 123 11 (by omega) (by omega) (by omega), hi 123 (by omega)]) (by rw [mfx_row h2 (by omega) (by omega) (by omega), hi 125 (by omega)]) (by rw [mfx_row h2 (by omega) (by omega) (by omega), hi 133 (by omega)]) hN hL (fun j j0 j1 => ?_)
  obtain ⟨A, _, _, _, _, e⟩ := h
  rw [lo 2 (by omega), mfx_row h2 (a := 124) (by omega) (by omega) (by omega), hi 124 (by omega), h1.1 2 (by omega) (by omega)]
  exact e j j0 j1
theorem fin_ref {M M1 M2 : zM} {j x y : Int} (h : Inv M) (h1 : cro M M1) (hj : 0 ≤ j ∧ j < 4) (hx : x = zw (M1 2 j + 1)) (h2 : mfx (zset M1 2 j x) M2) (hN : mN (pnet M) (M 4 3) M2) (hL : zLS M2) (hy : y = zw (M2 124 j + 1)) : Inv (zset M2 124 j y) := by
  have lo : ∀ a, a < 123 → M2 a = zset M1 2 j x a := fun a ha => mfx_row h2 (by omega) (by omega) (by omega)
  have hi : ∀ a, 123 ≤ a → M1 a = M a := fun a ha => h1.1 a (by omega) (by omega)
  have hi' : ∀ a, 123 ≤ a → zset M1 2 j x a = M a := fun a ha => by rw [zrow_o _ (by omega)]; exact hi a ha
  have lo' : ∀ a, a < 123 → a ≠ 2 → zset M2 124 j y a = M1 a := fun a ha hb => by rw [zrow_o _ (by omega), lo a ha, zrow_o _ hb]
  obtain ⟨A, _, _, _, _, e⟩ := id h
  refine Inv_step h (fun a p q r s => by rw [lo' a (by omega) r, h1.1 a s (by omega)]) (iK_cg h1.2 (fun a p q => lo' a (by omega) (by omega)) (fun a p q => lo' a (by omega) (by omega)) (lo' 112 (by omega) (by omega))) (by rw [zrow_o _ (by decide), h2 123 2 (by omega) (by omega) (by omega), hi' 123 (by omega)]) (by rw [zrow_o _ (by decide), h2 123 11 (by omega) (by omega) (by omega), hi' 123 (by omega)]) (by rw [zrow_o _ (by decide), mfx_row h2 (by omega) (by omega) (by omega), hi' 125 (by omega)]) (by rw [zrow_o _ (by decide), mfx_row h2 (by omega) (by omega) (by omega), hi' 133 (by omega)]) ?_ ?_ (fun k k0 k1 => ?_)
  · refine ⟨by rw [zrow_o _ (by decide)]; exact hN.1, fun v a b => by rw [zrow_o _ (by decide), zrow_o _ (by decide)]; exact hN.2.1 v a b, fun l a b => by rw [zrow_o _ (by decide), zrow_o _ (by decide), zrow_o _ (by decide), zrow_o _ (by decide), zrow_o _ (by decide)]; exact hN.2.2 l a b⟩
  · exact zLS_cg hL (fun a p q => zrow_o _ (by omega)) (by rw [zrow_o _ (by decide)])
  · have e2 : M2 124 = M 124 := by rw [mfx_row h2 (by omega) (by omega) (by omega), hi' 124 (by omega)]
    have e12 : M1 2 = M 2 := h1.1 2 (by omega) (by omega)
    rw [zrow_o _ (by decide), lo 2 (by omega), zrow_s, zrow_s, e2, e12]
    by_cases z : k = j
    · rw [z, fset_s, fset_s, hx, hy, e2, e12, e j hj.1 hj.2]
    · rw [fset_o _ z, fset_o _ z]; exact e k k0 k1
section OPS
variable {Q : Int → zM → Prop} {M : zM}
theorem c91 {why : Int} (hw : -5 ≤ why ∧ why ≤ -2) (h : Q why (zset M 2 (-2 - why) (zw (M 2 (-2 - why) + 1)))) : zF 91 Q [(2, 1), (0, why)] M := by
  refine s91_0 ?_
  rw [zw_id (by omega)]
  exact ⟨fun q => by omega, fun _ => ⟨fun q => by omega, fun _ => ⟨by omega, h⟩⟩⟩
/-- what the reference finds when the class has answered -/
def mst (M M1 : zM) : Prop := mN (pnet M) (M 4 3) M1 ∧ zLS M1 ∧ ∀ a, 123 ≤ a → M1 a = M a
theorem mN_hi {N V V' : zM} {S : Int} (h : mN N S V) (hr : ∀ a, 123 ≤ a → a ≤ 132 → V' a = V a) : mN N S V' := by
  unfold mN
  rw [hr 123 (by omega) (by omega), hr 126 (by omega) (by omega), hr 127 (by omega) (by omega), hr 128 (by omega) (by omega), hr 129 (by omega) (by omega), hr 130 (by omega) (by omega), hr 131 (by omega) (by omega), hr 132 (by omega) (by omega)]
  exact h
theorem mst_of {M1 : zM} (h : Inv M) (h1 : ∀ a, 123 ≤ a → M1 a = M a) : mst M M1 := by
  obtain ⟨A, a1, ⟨b1, b2, b3, b4⟩, ⟨c1, c2, c3⟩, d, e⟩ := h
  exact ⟨mN_hi c2 (fun a p _ => h1 a p), zLS_cg c3 (fun a p q => h1 a (by omega)) (by rw [h1 123 (by omega)]), h1⟩
/-- both refuse -/
theorem refuse2 {km : Nat} {As : List zV} {why : Int} {M1 : zM} (h : Inv M) (h1 : cro M M1) (hw : -5 ≤ why ∧ why ≤ -2)
    (hm : ∀ (M2 : zM) (Qm : Int → zM → Prop), mst M M2 → (∀ M3, mfx M2 M3 → mN (pnet M) (M 4 3) M3 → zLS M3 → zF 99 Qm [(2, 123), (0, why)] M3) → zF km Qm As M2) : zF 91 (fun r Mx => zF km (fun r' M2 => r = r' ∧ Inv M2) As Mx) [(2, 1), (0, why)] M1 := by
  refine c91 hw (hm _ _ (mst_of h (fun a ha => by rw [zrow_o _ (by omega)]; exact h1.1 a (by omega) (by omega))) (fun M3 b1 b2 b3 => c99 hw ⟨rfl, ?_⟩))
  exact fin_ref h h1 (by omega) rfl b1 b2 b3 rfl
end OPS
