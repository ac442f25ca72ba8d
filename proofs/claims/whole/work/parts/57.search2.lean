/-! the class's search: leave, explore -/
theorem pgo_stop {N : zM} {S : Int} {L : List Int} {t : Nat} (h : 300 < (pgo N S t L).length) : ∀ n : Nat, pgo N S (t + n) L = pgo N S t L
  | 0 => rfl
  | n + 1 => by rw [show t + (n + 1) = (t + n) + 1 by omega, pgo_s, pgo_stop h n, plr_full h, ite_self]
def zxf (M M' : zM) : Prop := zfm 97 111 M M' ∧ M' 97 8 = M 97 8
section SX
variable {Q : Int → zM → Prop} {M : zM} {L : List Int} {S : Int}
theorem c59 (hW : zWC M) (hk : psx (pnet M) S) (hXX : pXX (pnet M)) (hS : zse (pnet M) M L) (hQ : ∀ M', zxf M M' → zse (pnet M) M' (pgo (pnet M) S (M 4 2).toNat L) → Q 0 M') : zF 59 Q [(2, 97), (2, 4), (0, S)] M := by
  have hpW := pW_of hW
  have hm := hW.1
  refine s59_0 (c1 rfl hW (fun l hl => by have := hk.1.1 l hl; rw [pnet_42] at this; exact this) (fun M1 g1 g2 g3 => ?_))
  have rw1 : ∀ a, ¬ (100 ≤ a ∧ a ≤ 107) → M1 a = M a := fun a ha => zFf_row g1 (by omega)
  have hr1 : ∀ a, 4 ≤ a → a ≤ 11 → M1 a = M a := fun a p q => rw1 a (by omega)
  have hp1 : pnet M1 = pnet M := pnet_cg hr1
  have key : ∀ (n t : Nat) (M' : zM), ((t : Nat) : Int) + n = M 4 2 → zxf M M' → (∀ a, 100 ≤ a → a ≤ 107 → M' a = M1 a) → zse (pnet M) M' (pgo (pnet M) S t L) → zS 59 Q 11 [(2, 97), (2, 4), (0, S), (0, (t : Int))] [] M' := by
    intro n
    induction n with
    | zero =>
      intro t M' ht hM hF hS'
      refine s59_11 ⟨fun _ => hQ M' hM (by rw [show (M 4 2).toNat = t by omega]; exact hS'), fun q => ?_⟩
      rw [zfm_row hM.1 (by omega)] at q; omega
    | succ n ih =>
      intro t M' ht hM hF hS'
      have ht' : 0 ≤ ((t : Nat) : Int) ∧ ((t : Nat) : Int) < M 4 2 := by omega
      have hr : ∀ a, 4 ≤ a → a ≤ 11 → M' a = M a := fun a p q => zfm_row hM.1 (by omega)
      have e4 : M' 4 = M 4 := hr 4 (by decide) (by decide)
      have hWM : zWC M' := zWC_cg hW hr
      have hpM : pnet M' = pnet M := pnet_cg hr
      have hOM : zFO M' 100 := zFO_cg g3 (fun a p q => by rw [hr a p q, hr1 a p q]) (fun a p q => hF a (by omega) (by omega))
      have e100 : M' 100 0 = S := by rw [hF 100 (by omega) (by omega)]; exact g2
      refine s59_11 ⟨fun q => ?_, fun _ => ⟨fun q => ?_, fun q => c21 (by rw [e4]; exact hm) (by omega) (fun z => ⟨fun _ => ?_, fun y => absurd rfl y⟩) (fun z => ⟨fun y => absurd y (by decide), fun _ => ?_⟩)⟩⟩
      · rw [e4] at q; omega
      · refine hQ M' hM ?_
        rcases hS' with ⟨a1, _⟩ | ⟨a1, a2, a3⟩
        · exact absurd a1 q
        · rw [show (M 4 2).toNat = t + (n + 1) by omega, pgo_stop a2]
          exact Or.inr ⟨a1, a2, a3⟩
      · rw [hpM] at z
        rw [zw_id (by omega)]
        refine ih (t + 1) M' (by omega) hM hF ?_
        rw [pgo_s, if_neg z]; exact hS'
      · rw [hpM] at z
        refine c50' rfl (Or.inr rfl) rfl hWM hOM (by rw [hpM, e100]; exact hk.1) (by rw [e4]; exact ht') (fun M2 k1 k2 k3 => ?_)
        rw [hpM, e100] at k3
        have rw2 : ∀ a, ¬ (108 ≤ a ∧ a ≤ 111) → M2 a = M' a := fun a ha => zfm_row k1 (by omega)
        have hr2 : ∀ a, 4 ≤ a → a ≤ 11 → M2 a = M a := fun a p q => by rw [rw2 a (by omega)]; exact hr a p q
        have hp2 : pnet M2 = pnet M := pnet_cg hr2
        have e2 : M2 100 0 = S := by rw [rw2 100 (by omega)]; exact e100
        have hO2 : zFO M2 100 := zFO_cg hOM (fun a p q => rw2 a (by omega)) (fun a p q => rw2 a (by omega))
        refine c60 (zWC_cg hW hr2) hO2 (by rw [hp2, e2]; exact hk) (by rw [hp2, e2]; exact z) k2 (by rw [hp2, e2]; exact k3) (by rw [hp2]; exact hXX) (L := pgo (pnet M) S t L) (by rw [hp2]; exact zse_cg hS' (fun i _ _ => by rw [rw2 97 (by omega)]) (rw2 98 (by omega)) (rw2 99 (by omega))) (fun M3 y1 y2 => ?_)
        rw [hp2, e2] at y2
        rw [zw_id (by omega)]
        refine ih (t + 1) M3 (by omega) ⟨fun a i p => ?_, ?_⟩ (fun a p q => ?_) ?_
        · rw [y1 a i (by omega) (by omega) (by omega), rw2 a (by omega)]; exact hM.1 a i p
        · rw [y1 97 8 (by omega) (by omega) (by omega), rw2 97 (by omega)]; exact hM.2
        · rw [zsf_row y1 (by omega) (by omega) (by omega), rw2 a (by omega)]; exact hF a p q
        · rw [pgo_s, if_pos z]; exact y2
  exact key (M 4 2).toNat 0 M1 (by omega) ⟨fun a i p => by rw [rw1 a (by omega)], by rw [rw1 97 (by omega)]⟩ (fun _ _ _ => rfl) (zse_cg hS (fun i _ _ => by rw [rw1 97 (by omega)]) (rw1 98 (by omega)) (rw1 99 (by omega)))
theorem c58 {n : Nat} (hW : zWC M) (hn : n ≤ 9) (hk : psx (pnet M) (M 4 3)) (hXX : pXX (pnet M)) (hc : M 97 8 = (n : Int) → zse (pnet M) M (pre (pnet M) (M 4 3) n)) (hQ : ∀ M', zfm 97 111 M M' → M' 97 8 = (n : Int) → zse (pnet M) M' (pre (pnet M) (M 4 3) n) → Q 0 M') : zF 58 Q [(2, 97), (2, 4), (0, (n : Int))] M := by
  have hpW := pW_of hW
  have hm := hW.1
  have outer : ∀ (d : Nat) (g : Nat) (k : Nat) (M' : zM) (L : List Int), g + d = n → zfm 97 111 M M' → M' 97 8 = (n : Int) → zse (pnet M) M' L → (∀ x, x ∈ L → psx (pnet M) x) → k ≤ L.length → plevel (pnet M) d k L = pre (pnet M) (M 4 3) n → zS 58 Q 83 [(2, 97), (2, 4), (0, (n : Int)), (0, (k : Int)), (0, (g : Int)), (3, 0), (3, 0)] [] M' := by
    intro d
    induction d with
    | zero =>
      intro g k M' L hd hM h8 hS hx hkl hL
      refine s58_83 ⟨fun _ => hQ M' hM h8 (by rw [← hL]; exact hS), fun q => by omega⟩
    | succ d ih =>
      intro g k M' L hd hM h8 hS hx hkl hL
      have hr : ∀ a, 4 ≤ a → a ≤ 11 → M' a = M a := fun a p q => zfm_row hM (by omega)
      refine s58_83 ⟨fun q => by omega, fun _ => ⟨fun q => ?_, fun q => ?_⟩⟩
      · refine hQ M' hM h8 ?_
        rcases hS with ⟨a1, _⟩ | ⟨a1, a2, a3⟩
        · exact absurd a1 q
        · rw [plevel_full a2] at hL
          rw [← hL]; exact Or.inr ⟨a1, a2, a3⟩
      · have hS1 := hS
        rcases hS with ⟨a1, a2, a3, _⟩ | ⟨a1, _⟩
        · rw [a2]
          have inner : ∀ (m i : Nat) (M2 : zM) (L' : List Int), i + m = L.length → zfm 97 111 M M2 → M2 97 8 = (n : Int) → zse (pnet M) M2 L' → (∀ x, x ∈ L' → psx (pnet M) x) → (∃ R, L' = L ++ R) → plevel (pnet M) d L.length (pall (pnet M) (L.drop i) L') = pre (pnet M) (M 4 3) n → zS 58 Q 105 [(2, 97), (2, 4), (0, (n : Int)), (0, (k : Int)), (0, (g : Int)), (0, (L.length : Int)), (0, (i : Int))] [] M2 := by
            intro m
            induction m with
            | zero =>
              intro i M2 L' hi hM2 h82 hS2 hx2 hR hL2
              refine s58_105 ⟨fun _ => ?_, fun q => by omega⟩
              rw [zw_id (by omega)]
              rw [List.drop_of_length_le (by omega)] at hL2
              obtain ⟨R, rfl⟩ := hR
              exact ih (g + 1) L.length M2 _ (by omega) hM2 h82 hS2 hx2 (by simp) hL2
            | succ m ihm =>
              intro i M2 L' hi hM2 h82 hS2 hx2 hR hL2
              obtain ⟨R, hR⟩ := hR
              have hr2 : ∀ a, 4 ≤ a → a ≤ 11 → M2 a = M a := fun a p q => zfm_row hM2 (by omega)
              have hp2 : pnet M2 = pnet M := pnet_cg hr2
              have e4 : M2 4 = M 4 := hr2 4 (by decide) (by decide)
              refine s58_105 ⟨fun q => by omega, fun _ => ⟨fun q => by omega, fun _ => ⟨fun q => ?_, fun q => ⟨by omega, ?_⟩⟩⟩⟩
              · rw [zw_id (by omega)]
                rcases hS2 with ⟨b1, _⟩ | ⟨b1, b2, b3⟩
                · exact absurd b1 q
                · rw [pall_full b2] at hL2
                  exact ih (g + 1) L.length M2 L' (by omega) hM2 h82 (Or.inr ⟨b1, b2, b3⟩) hx2 (by rw [hR]; simp) hL2
              · have hS2' := hS2
                rcases hS2 with ⟨b1, b2, b3, b4, b5, b6⟩ | ⟨b1, _⟩
                · have hi1 : i < L.length := by omega
                  have hi2 : i < L'.length := by rw [hR, List.length_append]; omega
                  have es : M2 98 i = L'[i] := by
                    have := kro_at b4 i hi2
                    rw [Int.zero_add] at this; exact this
                  have el : L'[i] = L[i] := by
                    have : L'[i]? = L[i]? := by rw [hR, List.getElem?_append_left hi1]
                    rw [List.getElem?_eq_getElem hi2, List.getElem?_eq_getElem hi1] at this
                    exact Option.some.inj this
                  rw [es]
                  have hpx : psx (pnet M) L'[i] := hx2 _ (List.getElem_mem _)
                  refine c59 (zWC_cg hW hr2) (by rw [hp2]; exact hpx) (by rw [hp2]; exact hXX) (by rw [hp2]; exact hS2') (fun M3 y1 y2 => ?_)
                  rw [hp2, e4] at y2
                  rw [zw_id (by omega)]
                  have e42 : pnet M 4 2 = M 4 2 := pnet_42 M
                  refine ihm (i + 1) M3 _ (by omega) (zfm_t hM2 y1.1) (by rw [y1.2]; exact h82) y2 (pgo_all hpW hpx hx2 _) ?_ ?_
                  · obtain ⟨R', r'⟩ := pgo_pre (N := pnet M) (S := L'[i]) (L := L') (M 4 2).toNat
                    exact ⟨R ++ R', by rw [r', hR, List.append_assoc]⟩
                  · rw [List.drop_eq_getElem_cons hi1] at hL2
                    have e : pall (pnet M) (L[i] :: L.drop (i + 1)) L' = pall (pnet M) (L.drop (i + 1)) (pgo (pnet M) L[i] (pnet M 4 2).toNat L') := rfl
                    rw [e, e42, ← el] at hL2
                    exact hL2
                · rw [q] at b1; cases b1
          refine inner (L.length - k) k M' L (by omega) hM h8 hS1 hx ⟨[], by simp⟩ hL
        · rw [q] at a1; cases a1
  refine s58_0 ⟨fun q => ?_, fun q => hQ M zfm_r q (hc q)⟩
  generalize hM0 : zset (zset (zset M 97 8 (n : Int)) 97 0 0) 97 1 0 = M0
  have f0 : zfm 97 111 M M0 := by rw [← hM0]; exact zfm_s (zfm_s (zfm_s zfm_r (by omega)) (by omega)) (by omega)
  have r97 : M0 97 = fset (fset (fset (M 97) 8 (n : Int)) 0 0) 1 0 := by rw [← hM0, zrow_s, zrow_s, zrow_s]
  refine c165 (l := 512) rfl (by decide) (fun M1 g1 g2 => ?_)
  have f1 : zfm 97 111 M M1 := zfm_t f0 (fun a i p => by rw [g1 a (by omega)])
  have hr1 : ∀ a, 4 ≤ a → a ≤ 11 → M1 a = M a := fun a p q => zfm_row f1 (by omega)
  have e41 : M1 4 = M 4 := hr1 4 (by decide) (by decide)
  rw [e41]
  refine c1 rfl (zWC_cg hW hr1) (fun l hl => by have := hk.1.1 l hl; rw [pnet_42] at this; rw [e41]; exact this) (fun M2 k1 k2 k3 => ?_)
  have rw2 : ∀ a, ¬ (100 ≤ a ∧ a ≤ 107) → M2 a = M1 a := fun a ha => zFf_row k1 (by omega)
  have f2 : zfm 97 111 M M2 := zfm_t f1 (fun a i p => by rw [rw2 a (by omega)])
  have hr2 : ∀ a, 4 ≤ a → a ≤ 11 → M2 a = M a := fun a p q => zfm_row f2 (by omega)
  have hp2 : pnet M2 = pnet M := pnet_cg hr2
  have e42 : M2 4 = M 4 := hr2 4 (by decide) (by decide)
  have hls := zFO_ls (zWC_cg hW hr2) k3 (by rw [hp2, k2]; exact hk.1.2)
  rw [hp2, k2] at hls
  rw [e42, hls]
  generalize hM3 : zset (zset M2 97 2 (pls (pnet M) (M 4 3))) 97 3 (M 4 3) = M3
  have r3 : M3 97 = fset (fset (M2 97) 2 (pls (pnet M) (M 4 3))) 3 (M 4 3) := by rw [← hM3, zrow_s, zrow_s]
  have o3 : ∀ a, a ≠ 97 → M3 a = M2 a := fun a ha => by rw [← hM3, zrow_o _ ha, zrow_o _ ha]
  have r297 : M2 97 = fset (fset (fset (M 97) 8 (n : Int)) 0 0) 1 0 := by rw [rw2 97 (by omega), g1 97 (by decide), r97]
  have z99 : ∀ s, 0 ≤ s → s < 512 → M3 99 s = 0 := fun s s0 s1 => by rw [o3 99 (by decide), rw2 99 (by omega)]; exact g2 s s0 (by omega)
  refine c61 (N := pnet M) (L := []) ?_ ?_ (by simp) trivial ?_ (by simp) rfl (Or.inl ⟨rfl, ?_, ?_⟩) (fun M4 y1 y2 => ?_)
  · rw [r3, fset_o _ (by decide), fset_o _ (by decide), r297, fset_s]
  · rw [r3, fset_o _ (by decide), fset_o _ (by decide), r297, fset_o _ (by decide), fset_s]; rfl
  · exact ⟨fun s s0 s1 => Or.inl (z99 s s0 s1), fun s s' s0 s1 _ _ h => absurd (z99 s s0 s1) h, fun j hj => by simp at hj⟩
  · rw [r3, fset_o _ (by decide), fset_s]
  · rw [r3, fset_s]
  · have f4 : zfm 97 111 M M4 := fun a i p => by
      rw [y1 a i (by omega) (by omega) (by omega), o3 a (by omega)]; exact f2 a i p
    have h8 : M4 97 8 = (n : Int) := by
      rw [y1 97 8 (by decide) (by decide) (by omega), r3, fset_o _ (by decide), fset_o _ (by decide), r297, fset_o _ (by decide), fset_o _ (by decide), fset_s]
    exact outer n 0 0 M4 [M 4 3] (by omega) f4 h8 y2 (fun x hx => by rw [List.mem_singleton] at hx; rw [hx]; exact hk) (by simp) rfl
end SX
