/-! the class's look, the reference's looks: both find the best exchange and how many help -/
theorem psv_s {N : zM} {S : Int} (t : Nat) : psv N S (t + 1) = psv N S t + @ite _ (ptie N S t) (Classical.propDecidable _) (pc N S t (prs N S t)) 0 := rfl
theorem psv_b {N : zM} {S : Int} (hl : ∀ t, (prs N S t).length ≤ 24) : ∀ n : Nat, 0 ≤ psv N S n ∧ psv N S n ≤ 24 * n
  | 0 => by unfold psv; simp
  | n + 1 => by
    have ih := psv_b hl n
    have h := pc_b (N := N) (S := S) (t := n) (B := prs N S n)
    have h2 := hl n
    unfold psv
    split <;> omega
theorem prs_len {N : zM} {S t : Int} (hW : pW N) (hk : pok N S) : (prs N S t).length ≤ 24 := by
  unfold prs
  rw [List.length_map]
  match h : prg N S t with
  | [] => simp
  | e :: P =>
    have hR := prg_r (N := N) (S := S) (t := t) (e := e) (by rw [h]; exact List.mem_cons_self)
    rw [h] at hR
    have := nodup_16 (b := 24) hR.2 (fun x hx => by
      obtain ⟨y, y1, y2⟩ := List.mem_map.mp hx
      have hs := (kP_S hR.1 y y1).1
      have := hk.1 _ hs
      have := hW.1
      have := hs.1
      omega)
    unfold kls at this
    rw [List.length_map] at this
    exact this
theorem pls_b {N : zM} {S : Int} {fl ne : Int → Int} (hW : pW N) (hX : pX N S fl ne) : 0 ≤ pls N S ∧ pls N S ≤ 6000000000 := by
  have hm := hW.1
  have h := zsum_b (f := fun l => N 8 l * pfl N S l * pfl N S l) (b := 248396544) (N 4 2).toNat (fun i hi => by
    have w2 := (hW.2.2.2.2 i (by omega) (by omega)).2.1
    have w3 := pfl_b hX (l := i) (by omega) (by omega)
    have a0 : 0 ≤ N 8 i * pfl N S i := Int.mul_nonneg (by omega) w3.1
    have a1 : N 8 i * pfl N S i ≤ 99 * 1584 := Int.mul_le_mul w2.2 w3.2 w3.1 (by omega)
    have b0 : 0 ≤ N 8 i * pfl N S i * pfl N S i := Int.mul_nonneg a0 w3.1
    have b1 : N 8 i * pfl N S i * pfl N S i ≤ 99 * 1584 * 1584 := Int.mul_le_mul a1 w3.2 w3.1 (by omega)
    exact ⟨b0, by omega⟩)
  unfold pls
  omega
theorem pA_in {N : zM} {S t l g : Int} (h : pA N S t l g) : 0 ≤ t := h.1.1.1
section LK
variable {Q : Int → zM → Prop} {M : zM}
theorem c64 (hW : zWC M) (hO : zFO M 12) (hk : pok (pnet M) (M 12 0))
    (hQ : ∀ M', zfm 92 96 M M' → M' 92 0 = psv (pnet M) (M 12 0) (M 4 2).toNat → kB (pA (pnet M) (M 12 0)) (M' 92 1) (M' 92 2) (M' 92 3) → Q 0 M') : zF 64 Q [(2, 92), (2, 4), (2, 12)] M := by
  have hm := hW.1
  have hpW := pW_of hW
  have hX := zFO_X hO
  have key : ∀ (n t : Nat) (M' : zM), ((t : Nat) : Int) + n = M 4 2 → zfm 92 96 M M' → M' 92 0 = psv (pnet M) (M 12 0) t → kB (fun t' l g => pA (pnet M) (M 12 0) t' l g ∧ t' < (t : Int)) (M' 92 1) (M' 92 2) (M' 92 3) → zS 64 Q 22 [(2, 92), (2, 4), (2, 12), (0, (t : Int))] [] M' := by
    intro n
    induction n with
    | zero =>
      intro t M' ht hM h0 hB
      have e4 : M' 4 = M 4 := zfm_row hM (by omega)
      refine s64_22 ⟨fun _ => hQ M' hM (by rw [h0]; congr 1; omega) (kB_cg hB (fun t' l g => ⟨fun z => z.1, fun z => ⟨z, ?_⟩⟩)), fun q => ?_⟩
      · have := z.1.1.2; rw [pnet_42] at this; omega
      · rw [e4] at q; omega
    | succ n ih =>
      intro t M' ht hM h0 hB
      have e4 : M' 4 = M 4 := zfm_row hM (by omega)
      have e12 : M' 12 = M 12 := zfm_row hM (by omega)
      have hr : ∀ a, 4 ≤ a → a ≤ 11 → M' a = M a := fun a p q => zfm_row hM (by omega)
      have hWM : zWC M' := zWC_cg hW hr
      have hpM : pnet M' = pnet M := pnet_cg hr
      have hOM : zFO M' 12 := zFO_cg hO hr (fun a p q => zfm_row hM (by omega))
      have ht' : 0 ≤ ((t : Nat) : Int) ∧ ((t : Nat) : Int) < M 4 2 := by omega
      have hps := psv_b (N := pnet M) (S := M 12 0) (fun t => prs_len hpW hk) t
      refine s64_22 ⟨fun q => ?_, fun _ => c21 (by rw [e4]; exact hm) (by omega) (fun z => ⟨fun _ => ?_, fun y => absurd rfl y⟩) (fun z => ⟨fun y => absurd y (by decide), fun _ => ?_⟩)⟩
      · rw [e4] at q; omega
      · rw [zw_id (by omega)]
        rw [hpM, e12] at z
        refine ih (t + 1) M' (by omega) hM ?_ (kB_cg hB (fun t' l g => ?_))
        · rw [h0, psv_s, if_neg z, Int.add_zero]
        · constructor
          · rintro ⟨a, b⟩; exact ⟨a, by omega⟩
          · rintro ⟨a, b⟩
            refine ⟨a, ?_⟩
            by_cases y : t' = (t : Int)
            · exact absurd (by rw [← y]; exact a.1) z
            · omega
      · rw [hpM, e12] at z
        refine c50' rfl (Or.inl rfl) rfl hWM hOM (by rw [hpM, e12]; exact hk) (by rw [e4]; exact ht') (fun M2 g1 g2 g3 => ?_)
        rw [hpM, e12] at g3
        have hr2 : ∀ a, 4 ≤ a → a ≤ 11 → M2 a = M a := fun a p q => by rw [zfm_row g1 (by omega)]; exact hr a p q
        have hpM2 : pnet M2 = pnet M := pnet_cg hr2
        have h92 : M2 92 = M' 92 := zfm_row g1 (by omega)
        have e42 : M2 4 = M 4 := hr2 4 (by omega) (by omega)
        refine c65 (A := fun t' l g => pA (pnet M) (M 12 0) t' l g ∧ t' < (t : Int)) (S := M 12 0) (zWC_cg hW hr2) (by rw [e42]; exact ht') g2 (by rw [hpM2]; exact g3) (fun e he => ?_) (fun t' l' g' y => y.2) (by rw [h92, h0]; omega) (by rw [h92]; exact hB) (fun M3 k1 k2 k3 => ?_)
        · rw [hpM2] at he
          have := prs_b hpW hk hX he
          rw [pnet_42] at this
          rw [e42]; exact this
        · rw [zw_id (by omega)]
          rw [hpM2] at k2 k3
          refine ih (t + 1) M3 (by omega) (fun a i p => ?_) ?_ (kB_cg k3 (fun t' l g => ?_))
          · rw [k1 a (by omega), g1 a i (by omega)]; exact hM a i p
          · rw [k2, h92, h0, psv_s, if_pos z]
          · constructor
            · rintro (⟨a, b⟩ | ⟨a, b⟩)
              · exact ⟨a, by omega⟩
              · refine ⟨?_, by omega⟩
                rw [a]
                exact ⟨z, b⟩
            · rintro ⟨a, b⟩
              by_cases y : t' = (t : Int)
              · refine Or.inr ⟨y, ?_⟩
                rw [y] at a
                exact a.2
              · exact Or.inl ⟨a, by omega⟩
  have r0 : ∀ j, (zset (zset (zset (zset M 92 0 0) 92 1 (-1)) 92 2 (-1)) 92 3 0) 92 j = fset (fset (fset (fset (M 92) 0 0) 1 (-1)) 2 (-1)) 3 0 j := fun j => by rw [zrow_s, zrow_s, zrow_s, zrow_s]
  refine s64_0 (key (M 4 2).toNat 0 _ (by omega) (zfm_s (zfm_s (zfm_s (zfm_s zfm_r (by omega)) (by omega)) (by omega)) (by omega)) ?_ (Or.inl ⟨?_, ?_, ?_, fun t l g z => ?_⟩))
  · rw [r0, fset_o _ (by decide), fset_o _ (by decide), fset_o _ (by decide), fset_s]; rfl
  · rw [r0, fset_o _ (by decide), fset_o _ (by decide), fset_s]
  · rw [r0, fset_o _ (by decide), fset_s]
  · rw [r0, fset_s]
  · have := z.1.1.1.1
    have := z.2
    omega
end LK
/-! the reference -/
noncomputable def pgl (N : zM) (S t l : Int) : Int := @ite _ (∃ e, e ∈ prs N S t ∧ e.1 = l ∧ phl N S t e) (Classical.propDecidable _) 1 0
theorem pgl_pc {N : zM} {S t : Int} : ∀ {B : List (Int × Int)}, (∀ e, e ∈ B → (phl N S t e ↔ ∃ x, x ∈ prs N S t ∧ x.1 = e.1 ∧ phl N S t x)) → zls (pgl N S t) (B.map Prod.fst) = pc N S t B
  | [], _ => rfl
  | e :: B, h => by
    rw [List.map_cons]
    unfold zls pc
    rw [pgl_pc (fun x hx => h x (List.mem_cons_of_mem _ hx))]
    congr 1
    unfold pgl
    by_cases q : phl N S t e
    · rw [if_pos q, if_pos ((h e List.mem_cons_self).mp q)]
    · rw [if_neg q, if_neg (fun z => q ((h e List.mem_cons_self).mpr z))]
theorem nodup_fst : ∀ {B : List (Int × Int)}, (B.map Prod.fst).Nodup → ∀ {x y : Int × Int}, x ∈ B → y ∈ B → x.1 = y.1 → x = y
  | [], _, _, _, h, _, _ => by cases h
  | e :: B, hn, x, y, hx, hy, he => by
    rw [List.map_cons, List.nodup_cons] at hn
    rcases List.mem_cons.mp hx with a | a <;> rcases List.mem_cons.mp hy with b | b
    · rw [a, b]
    · exact absurd (List.mem_map.mpr ⟨y, b, by rw [← he, a]⟩) hn.1
    · exact absurd (List.mem_map.mpr ⟨x, a, by rw [he, b]⟩) hn.1
    · exact nodup_fst hn.2 a b he
theorem prs_fst {N : zM} {S t : Int} : (prs N S t).map Prod.fst = kls (prg N S t) := by
  unfold prs kls
  rw [List.map_map]
  rfl
theorem prs_nodup {N : zM} {S t : Int} : ((prs N S t).map Prod.fst).Nodup := by
  rw [prs_fst]
  match h : prg N S t with
  | [] => exact List.nodup_nil
  | e :: P =>
    have hR := prg_r (N := N) (S := S) (t := t) (e := e) (by rw [h]; exact List.mem_cons_self)
    rw [h] at hR
    exact hR.2
theorem pgl_sum {N : zM} {S t : Int} (hW : pW N) (hk : pok N S) : zsum (pgl N S t) (N 4 2).toNat = pc N S t (prs N S t) := by
  have hm := hW.1
  rw [zsum_list (L := (prs N S t).map Prod.fst) prs_nodup (fun l hl => ?_) (fun i hi q => ?_), pgl_pc (fun e he => ?_)]
  · constructor
    · intro z; exact ⟨e, he, rfl, z⟩
    · rintro ⟨x, x1, x2, x3⟩
      rw [← nodup_fst prs_nodup x1 he x2]; exact x3
  · rw [prs_fst] at hl
    obtain ⟨y, y1, y2⟩ := List.mem_map.mp hl
    have hs := prg_S hk y1
    have := hk.1 _ hs
    have := hs.1
    omega
  · unfold pgl
    rw [if_neg]
    rintro ⟨e, e1, e2, e3⟩
    exact q (List.mem_map.mpr ⟨e, e1, e2⟩)
theorem pgl_01 {N : zM} {S t l : Int} : pgl N S t l = 0 ∨ pgl N S t l = 1 := by
  unfold pgl
  split
  · exact Or.inr rfl
  · exact Or.inl rfl
