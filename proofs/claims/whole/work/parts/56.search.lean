/-! the class's search -/
def zse (N M : zM) (L : List Int) : Prop :=
  (M 97 1 = 0 ∧ M 97 0 = (L.length : Int) ∧ L.length ≤ 300 ∧ kro (M 98) 0 L ∧ zhp M L ∧ kLe N L (M 97 2) (M 97 3))
  ∨ (M 97 1 = 1 ∧ 300 < L.length ∧ ∃ L0 : List Int, L0.length = 300 ∧ M 97 0 = 300 ∧ kro (M 98) 0 L0 ∧ zhp M L0)
def zsf (M M' : zM) : Prop := ∀ a i : Int, a ≠ 98 → a ≠ 99 → ¬ (a = 97 ∧ 0 ≤ i ∧ i ≤ 3) → M' a i = M a i
theorem zsf_r {M : zM} : zsf M M := fun _ _ _ _ _ => rfl
theorem zsf_t {M M' M'' : zM} (h : zsf M M') (g : zsf M' M'') : zsf M M'' := fun a i p q r => (g a i p q r).trans (h a i p q r)
theorem zsf_s {M M' : zM} {a i x : Int} (h : zsf M M') (ha : a = 98 ∨ a = 99 ∨ (a = 97 ∧ 0 ≤ i ∧ i ≤ 3)) : zsf M (zset M' a i x) := fun b j p q r => by
  unfold zset
  rw [if_neg (fun z => by omega)]
  exact h b j p q r
theorem zsf_row {M M' : zM} (h : zsf M M') {a : Int} (h1 : a ≠ 97) (h2 : a ≠ 98) (h3 : a ≠ 99) : M' a = M a := funext fun i => h a i h2 h3 (by omega)
theorem zse_cg {N M M' : zM} {L : List Int} (h : zse N M L) (h97 : ∀ i, 0 ≤ i → i ≤ 3 → M' 97 i = M 97 i) (h98 : M' 98 = M 98) (h99 : M' 99 = M 99) : zse N M' L := by
  unfold zse zhp
  rw [h97 0 (by omega) (by omega), h97 1 (by omega) (by omega), h97 2 (by omega) (by omega), h97 3 (by omega) (by omega), h98, h99]
  exact h
theorem kLe_lt {N : zM} {L : List Int} {a b s : Int} (h : kLe N L a b) (hs : pls N s < a ∨ (pls N s = a ∧ s < b)) : kLe N (L ++ [s]) (pls N s) s := by
  refine ⟨by simp, rfl, fun x hx => ?_⟩
  rcases List.mem_append.mp hx with q | q
  · have := h.2.2 x q; omega
  · rw [List.mem_singleton] at q; rw [q]; omega
theorem kLe_ge {N : zM} {L : List Int} {a b s : Int} (h : kLe N L a b) (hs : a < pls N s ∨ (pls N s = a ∧ b ≤ s)) : kLe N (L ++ [s]) a b := by
  refine ⟨List.mem_append_left _ h.1, h.2.1, fun x hx => ?_⟩
  rcases List.mem_append.mp hx with q | q
  · exact h.2.2 x q
  · rw [List.mem_singleton] at q; rw [q]; omega
theorem zhp_add {M M' : zM} {L : List Int} {s r : Int} {d : Nat} (hp : zhp M L) (hr : 0 ≤ r ∧ r < 512) (hd : d < 512) (e : r = (zhs s + d) % 512) (h0 : M 99 r = 0) (hb : ∀ d' : Nat, d' < d → ¬ M 99 ((zhs s + d') % 512) = 0) (hM : M' 99 = fset (M 99) r (L.length + 1)) : zhp M' (L ++ [s]) := by
  obtain ⟨p1, p2, p3⟩ := hp
  have len : (L ++ [s]).length = L.length + 1 := by simp
  have nz : ∀ y, ¬ M 99 y = 0 → M' 99 y = M 99 y := fun y hy => by rw [hM, fset_o _ (fun z => hy (by rw [z]; exact h0))]
  have nz' : ∀ y, ¬ M 99 y = 0 → ¬ M' 99 y = 0 := fun y hy => by rw [nz y hy]; exact hy
  have new : M' 99 r = (L.length : Int) + 1 := by rw [hM, fset_s]
  refine ⟨fun y y0 y1 => ?_, fun y y' y0 y1 y0' y1' h1 h2 => ?_, fun j hj => ?_⟩
  · rw [hM, len]
    by_cases q : y = r
    · rw [q, fset_s]; omega
    · rw [fset_o _ q]; have := p1 y y0 y1; omega
  · rw [hM] at h1 h2
    by_cases q : y = r <;> by_cases q' : y' = r
    · rw [q, q']
    · rw [q, fset_s, fset_o _ q'] at h2
      have := p1 y' y0' y1'; omega
    · rw [q', fset_s, fset_o _ q] at h2
      have := p1 y y0 y1; omega
    · rw [fset_o _ q] at h1 h2
      rw [fset_o _ q'] at h2
      exact p2 y y' y0 y1 y0' y1' h1 h2
  · by_cases q : j < L.length
    · obtain ⟨d0, e1, e2, e3⟩ := p3 j q
      rw [List.getElem_append_left q]
      refine ⟨d0, e1, ?_, fun d' hd' => nz' _ (e3 d' hd')⟩
      rw [nz _ (by rw [e2]; omega)]
      exact e2
    · have ej : j = L.length := by rw [len] at hj; omega
      subst ej
      have es : (L ++ [s])[L.length] = s := by simp
      rw [es]
      exact ⟨d, hd, by rw [← e, new], fun d' hd' => nz' _ (hb d' hd')⟩
section SR
variable {Q : Int → zM → Prop} {M N : zM} {L : List Int} {s a : Int}
theorem c61 (h1 : M 97 1 = 0) (h0 : M 97 0 = (L.length : Int)) (hl : L.length ≤ 300) (hr : kro (M 98) 0 L) (hp : zhp M L) (hn : s ∉ L) (ha : a = pls N s) (hk : (L = [] ∧ M 97 2 = a ∧ M 97 3 = s) ∨ kLe N L (M 97 2) (M 97 3)) (hQ : ∀ M', zsf M M' → zse N M' (L ++ [s]) → Q 0 M') : zF 61 Q [(2, 97), (0, s), (1, a)] M := by
  refine s61_0 ⟨fun q => ⟨by omega, ?_⟩, fun q => ?_⟩
  · rw [zw_id (by omega), h0]
    generalize hM1 : zset (zset M 98 (L.length : Int) s) 97 0 ((L.length : Int) + 1) = M1
    have f1 : zsf M M1 := by rw [← hM1]; exact zsf_s (zsf_s zsf_r (Or.inl rfl)) (Or.inr (Or.inr (by omega)))
    have r98 : M1 98 = fset (M 98) L.length s := by rw [← hM1, zrow_o _ (by decide), zrow_s]
    have r99 : M1 99 = M 99 := by rw [← hM1, zrow_o _ (by decide), zrow_o _ (by decide)]
    have r97 : M1 97 = fset (M 97) 0 (L.length + 1) := by rw [← hM1, zrow_s, zrow_o _ (by decide)]
    have kr : kro (M1 98) 0 (L ++ [s]) := by rw [r98]; exact kro_push hr
    have hp1 : zhp M1 L := by unfold zhp; rw [r99]; exact hp
    have k0 : M1 97 0 = (L.length : Int) + 1 := by rw [r97, fset_s]
    have k1 : M1 97 1 = 0 := by rw [r97, fset_o _ (by decide)]; exact h1
    have k2 : M1 97 2 = M 97 2 := by rw [r97, fset_o _ (by decide)]
    have k3 : M1 97 3 = M 97 3 := by rw [r97, fset_o _ (by decide)]
    refine c62 hl hp1 (kro_app.mp kr).1 (fun z => absurd z hn) (fun _ r d r0 r1 d1 re rz rb => ⟨⟨r0, r1⟩, ?_⟩)
    rw [k0, k2, k3]
    have hlen : (L ++ [s]).length = L.length + 1 := by simp
    have keep : kLe N (L ++ [s]) (M 97 2) (M 97 3) → Q 0 (zset M1 99 r ((L.length : Int) + 1)) := fun z => by
      refine hQ _ (zsf_s f1 (Or.inr (Or.inl rfl))) (Or.inl ?_)
      rw [zrow_o _ (show (97 : Int) ≠ 99 by decide), zrow_o _ (show (98 : Int) ≠ 99 by decide), k0, k1, k2, k3]
      refine ⟨rfl, by rw [hlen]; omega, by omega, kr, ?_, z⟩
      exact zhp_add hp1 ⟨r0, r1⟩ d1 re rz rb (zrow_s _ _ _ _)
    have new : kLe N (L ++ [s]) a s → Q 0 (zset (zset (zset M1 99 r ((L.length : Int) + 1)) 97 2 a) 97 3 s) := fun z => by
      refine hQ _ (zsf_s (zsf_s (zsf_s f1 (Or.inr (Or.inl rfl))) (Or.inr (Or.inr (by omega)))) (Or.inr (Or.inr (by omega)))) (Or.inl ?_)
      have r97' : zset (zset (zset M1 99 r ((L.length : Int) + 1)) 97 2 a) 97 3 s 97 = fset (fset (M1 97) 2 a) 3 s := by rw [zrow_s, zrow_s, zrow_o _ (by decide)]
      have r98' : zset (zset (zset M1 99 r ((L.length : Int) + 1)) 97 2 a) 97 3 s 98 = M1 98 := by rw [zrow_o _ (by decide), zrow_o _ (by decide), zrow_o _ (by decide)]
      have r99' : zset (zset (zset M1 99 r ((L.length : Int) + 1)) 97 2 a) 97 3 s 99 = fset (M1 99) r (L.length + 1) := by rw [zrow_o _ (by decide), zrow_o _ (by decide), zrow_s]
      rw [r97', r98', fset_o (j := 0) _ (by decide), fset_o (j := 0) _ (by decide), fset_o (j := 1) _ (by decide), fset_o (j := 1) _ (by decide), fset_o (j := 2) _ (by decide), fset_s, fset_s, k0, k1]
      refine ⟨rfl, by rw [hlen]; omega, by omega, kr, ?_, z⟩
      exact zhp_add hp1 ⟨r0, r1⟩ d1 re rz rb r99'
    rcases hk with ⟨e1, e2, e3⟩ | hk
    · rw [e2, e3]
      have z : kLe N (L ++ [s]) a s := by
        rw [e1]
        exact ⟨by simp, ha, fun x hx => by simp at hx; rw [hx]; omega⟩
      rw [e2, e3] at keep
      exact ⟨fun _ => new z, fun _ => ⟨fun _ => keep z, fun _ => ⟨fun _ => keep z, fun _ => new z⟩⟩⟩
    · refine ⟨fun y => new ?_, fun y => ⟨fun y1 => keep ?_, fun y1 => ⟨fun y2 => keep ?_, fun y2 => new ?_⟩⟩⟩
      · rw [zlcmp_n] at y; rw [ha]; exact kLe_lt hk (by omega)
      · rw [zlcmp_n] at y; rw [zlcmp_0] at y1; exact kLe_ge hk (by omega)
      · rw [zlcmp_0] at y1; exact kLe_ge hk (by omega)
      · rw [zlcmp_0] at y1; rw [ha]; exact kLe_lt hk (by omega)
  · have hl3 : L.length = 300 := by omega
    refine hQ _ (zsf_s zsf_r (Or.inr (Or.inr (by omega)))) (Or.inr ⟨by rw [zrow_s, fset_s], by simp; omega, L, hl3, ?_, ?_, ?_⟩)
    · rw [zrow_s, fset_o _ (by decide), h0, hl3]; rfl
    · rw [zrow_o _ (by decide)]; exact hr
    · unfold zhp; rw [zrow_o _ (by decide)]; exact hp
theorem c61_full (h1 : M 97 1 = 1) (h0 : M 97 0 = 300) (hQ : Q 0 M) : zF 61 Q [(2, 97), (0, s), (1, a)] M := by
  refine s61_0 ⟨fun q => by omega, fun _ => ?_⟩
  have : zset M 97 1 1 = M := by have z := zset_id M 97 1; rw [h1] at z; exact z
  rw [this]; exact hQ
theorem plr_c {S t : Int} {e : Int × Int} {B : List (Int × Int)} : plr N S t (e :: B) L = plr N S t B (@ite _ (pmy N (prs N S t) t e.2) (Classical.propDecidable _) (padd L (pex S t e.1)) L) := rfl
theorem c60 {t : Int} (hW : zWC M) (hO : zFO M 100) (hk : psx (pnet M) (M 100 0)) (ht : ptie (pnet M) (M 100 0) t) (h4 : M 108 4 = t) (hR : zrh M 108 (prs (pnet M) (M 100 0) t)) (hXX : pXX (pnet M)) (hS : zse (pnet M) M L) (hQ : ∀ M', zsf M M' → zse (pnet M) M' (plr (pnet M) (M 100 0) t (prs (pnet M) (M 100 0) t) L) → Q 0 M') : zF 60 Q [(2, 97), (2, 4), (0, t)] M := by
  have hpW := pW_of hW
  have hX := zFO_X hO
  have hm := hW.1
  have ht' : 0 ≤ t ∧ t < M 4 2 := by have := ht.1; rw [pnet_42] at this; exact this
  have hb : ∀ e, e ∈ prs (pnet M) (M 100 0) t → (0 ≤ e.1 ∧ e.1 < M 4 2) ∧ -1584 ≤ e.2 ∧ e.2 ≤ 1584 := fun e he => by
    have := prs_b hpW hk.1 hX he
    rw [pnet_42] at this; exact this
  have hls := zFO_ls hW hO hk.1.2
  have key : ∀ (B A0 : List (Int × Int)) (k : Nat) (M' : zM) (L' : List Int), prs (pnet M) (M 100 0) t = A0 ++ B → k = A0.length → zsf M M' → zse (pnet M) M' L' → plr (pnet M) (M 100 0) t B L' = plr (pnet M) (M 100 0) t (prs (pnet M) (M 100 0) t) L → zS 60 Q 2 [(2, 97), (2, 4), (0, t), (0, (k : Int)), (3, 0)] [] M' := by
    intro B
    induction B with
    | nil =>
      intro A0 k M' L' hA hk2 hM hS' hL'
      rw [List.append_nil] at hA
      refine s60_2 ⟨fun _ => hQ M' hM (by rw [← hL']; exact hS'), fun q => ?_⟩
      rw [zsf_row hM (by decide) (by decide) (by decide), hR.1, hA] at q; omega
    | cons e B ih =>
      intro A0 k M' L' hA hk2 hM hS' hL'
      have hget : (prs (pnet M) (M 100 0) t)[k]? = some e := by rw [hA, hk2, List.getElem?_append_right (Nat.le_refl _)]; simp
      obtain ⟨hlt, hge⟩ := List.getElem?_eq_some_iff.mp hget
      have hl16 := hR.2.1
      have heR : e ∈ prs (pnet M) (M 100 0) t := by rw [hA]; exact List.mem_append_right _ List.mem_cons_self
      have row : ∀ a, a ≠ 97 → a ≠ 98 → a ≠ 99 → M' a = M a := fun a p q r => zsf_row hM p q r
      have hr4 : ∀ a, 4 ≤ a → a ≤ 11 → M' a = M a := fun a p q => row a (by omega) (by omega) (by omega)
      have hWM : zWC M' := zWC_cg hW hr4
      have hpM : pnet M' = pnet M := pnet_cg hr4
      have hRM : zrh M' 108 (prs (pnet M) (M 100 0) t) := by
        unfold zrh at hR ⊢
        rw [row 108 (by decide) (by decide) (by decide), row (108 + 1) (by decide) (by decide) (by decide), row (108 + 2) (by decide) (by decide) (by decide)]
        exact hR
      have hA2 : prs (pnet M) (M 100 0) t = (A0 ++ [e]) ++ B := by rw [hA]; simp
      have e4 : M' 4 = M 4 := hr4 4 (by decide) (by decide)
      have hline : M' 109 k = e.1 := by
        have := kro_at hRM.2.2.1 k (by rw [List.length_map]; exact hlt)
        rw [Int.zero_add, List.getElem_map, hge] at this
        exact this
      rw [plr_c] at hL'
      have skip : ∀ M2 L2, zsf M M2 → zse (pnet M) M2 L2 → plr (pnet M) (M 100 0) t B L2 = plr (pnet M) (M 100 0) t (prs (pnet M) (M 100 0) t) L → zS 60 Q 2 [(2, 97), (2, 4), (0, t), (0, zw ((k : Int) + 1)), (3, 0)] [] M2 := fun M2 L2 y1 y2 y3 => by
        rw [zw_id (by omega)]
        exact ih (A0 ++ [e]) (k + 1) M2 L2 hA2 (by rw [List.length_append, List.length_singleton, hk2]) y1 y2 y3
      refine s60_2 ⟨fun q => ?_, fun _ => ⟨by omega, s96_0 ?_⟩⟩
      · rw [hRM.1] at q; omega
      · rw [hline, row 100 (by decide) (by decide) (by decide)]
        show zF 62 _ [(2, 97), (0, pex (M 100 0) t e.1)] M'
        have t1 : 0 ≤ t ∧ t < M' 4 2 := by rw [e4]; exact ht'
        have t4 : M' 108 4 = t := by rw [row 108 (by decide) (by decide) (by decide)]; exact h4
        have b1 : ∀ e, e ∈ prs (pnet M) (M 100 0) t → (0 ≤ e.1 ∧ e.1 < M' 4 2) ∧ -1584 ≤ e.2 ∧ e.2 ≤ 1584 := by rw [e4]; exact hb
        rcases hS' with hA1 | hA1
        · obtain ⟨a1, a2, a3, a4, a5, a6⟩ := hA1
          refine c62 a3 a5 a4 (fun hx r r0 r1 rz => ⟨⟨r0, r1⟩, fun _ => ?_, fun z => absurd z rz⟩) (fun hx r d r0 r1 d1 re rz rb => ⟨⟨r0, r1⟩, fun z => absurd rz z, fun _ => ?_⟩)
          · refine skip M' L' hM (Or.inl ⟨a1, a2, a3, a4, a5, a6⟩) ?_
            have : padd L' (pex (M 100 0) t e.1) = L' := by unfold padd; rw [if_pos (Or.inr hx)]
            rw [this, ite_self] at hL'
            exact hL'
          · refine c53 rfl hWM t1 t4 hRM b1 hlt (fun q2 => ⟨fun _ => skip M' L' hM (Or.inl ⟨a1, a2, a3, a4, a5, a6⟩) ?_, fun z => absurd rfl z⟩) (fun q2 => ⟨fun z => absurd z (by decide), fun _ => c52 rfl hWM t1 t4 hRM b1 hlt ?_⟩)
            · rw [hpM, hge] at q2
              rw [if_neg q2] at hL'; exact hL'
            · rw [hpM, hge] at q2
              rw [if_pos q2] at hL'
              rw [hpM, hge, row 100 (by decide) (by decide) (by decide), hls]
              obtain ⟨x, x1, x2⟩ := List.mem_map.mp heR
              have ex : e.1 = x.1 := by rw [← x2]
              have es : ksg (pnet M 6) (pG (pnet M) (M 100 0)) x = e.2 := by rw [← x2]
              obtain ⟨fl2, ne2, hX2⟩ := hXX (pex (M 100 0) t x.1) (pok_x hpW hk.1 ht.1 x1).1
              have gn := px_gain hpW hk.1 ht.1 ht.2.1 x1 hX hX2
              have hb1 := pls_b hpW hX
              have hb2 := pls_b hpW hX2
              rw [es, ← ex] at gn
              rw [← ex] at hb2
              rw [zW_id (by omega)]
              refine c61 (N := pnet M) (s := pex (M 100 0) t e.1) a1 a2 a3 a4 a5 hx (by omega) (Or.inr a6) (fun M2 y1 y2 => skip M2 _ (zsf_t hM y1) y2 ?_)
              have : padd L' (pex (M 100 0) t e.1) = L' ++ [pex (M 100 0) t e.1] := by
                unfold padd
                rw [if_neg]
                rintro (z | z)
                · omega
                · exact hx z
              rw [this] at hL'
              exact hL'
        · obtain ⟨a1, a2, L0, a3, a4, a5, a6⟩ := hA1
          have st : zS 60 Q 2 [(2, 97), (2, 4), (0, t), (0, zw ((k : Int) + 1)), (3, 0)] [] M' := by
            refine skip M' L' hM (Or.inr ⟨a1, a2, L0, a3, a4, a5, a6⟩) ?_
            rw [padd_full a2, ite_self] at hL'
            exact hL'
          have nx : ∀ r, 0 ≤ r → r < 512 → (0 ≤ r ∧ r < 512) ∧ ((¬ (M' 99 r) = 0 → zS 60 Q 2 [(2, 97), (2, 4), (0, t), (0, zw ((k : Int) + 1)), (3, 0)] [] M') ∧ ((M' 99 r) = 0 → zF 53 (fun x9 M10 => ((x9 = 0 → zS 60 Q 2 [(2, 97), (2, 4), (0, t), (0, zw ((k : Int) + 1)), (3, 0)] [] M10) ∧ (¬ x9 = 0 → zF 52 (fun x13 M14 => zF 61 (fun _ M17 => zS 60 Q 2 [(2, 97), (2, 4), (0, t), (0, zw ((k : Int) + 1)), (3, 0)] [] M17) [(2, 97), (0, pex (M 100 0) t e.1), (1, zW ((M10 100 5) - x13))] M14) [(2, 108), (2, 4), (0, (k : Int))] M10))) [(2, 108), (2, 4), (0, (k : Int))] M')) := fun r r0 r1 => by
            refine ⟨⟨r0, r1⟩, fun _ => st, fun _ => c53 rfl hWM t1 t4 hRM b1 hlt (fun q2 => ⟨fun _ => st, fun z => absurd rfl z⟩) (fun q2 => ⟨fun z => absurd z (by decide), fun _ => c52 rfl hWM t1 t4 hRM b1 hlt (c61_full a1 a4 st)⟩)⟩
          exact c62 (by omega) a6 a5 (fun _ r r0 r1 _ => nx r r0 r1) (fun _ r d r0 r1 _ _ _ _ => nx r r0 r1)
  exact s60_0 (key (prs (pnet M) (M 100 0) t) [] 0 M L rfl rfl zsf_r hS rfl)
end SR
