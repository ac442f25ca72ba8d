/-! the class's survey -/
theorem zWC_cg {M M' : zM} (h : zWC M) (hr : ∀ a, 4 ≤ a → a ≤ 11 → M' a = M a) : zWC M' := by
  unfold zWC zTL
  rw [hr 4 (by omega) (by omega), hr 5 (by omega) (by omega), hr 6 (by omega) (by omega), hr 7 (by omega) (by omega), hr 8 (by omega) (by omega), hr 9 (by omega) (by omega), hr 10 (by omega) (by omega), hr 11 (by omega) (by omega)]
  exact h
theorem pnet_cg {M M' : zM} (hr : ∀ a, 4 ≤ a → a ≤ 11 → M' a = M a) : pnet M' = pnet M := pnet_eq (fun i _ => by rw [hr 4 (by omega) (by omega)]) (fun a p q => hr a (by omega) (by omega))
theorem zFO_cg {M M' : zM} {f : Int} (h : zFO M f) (hr : ∀ a, 4 ≤ a → a ≤ 11 → M' a = M a) (hf : ∀ a, f ≤ a → a ≤ f + 7 → M' a = M a) : zFO M' f := by
  unfold zFO
  rw [hr 4 (by omega) (by omega), hr 5 (by omega) (by omega), hr 6 (by omega) (by omega), hr 7 (by omega) (by omega), hr 8 (by omega) (by omega), hr 9 (by omega) (by omega), hf f (by omega) (by omega), hf (f + 1) (by omega) (by omega), hf (f + 2) (by omega) (by omega), hf (f + 3) (by omega) (by omega), hf (f + 4) (by omega) (by omega), hf (f + 5) (by omega) (by omega), hf (f + 6) (by omega) (by omega)]
  exact h
theorem pc_b {N : zM} {S t : Int} : ∀ {B : List (Int × Int)}, 0 ≤ pc N S t B ∧ pc N S t B ≤ B.length
  | [] => by unfold pc; simp
  | e :: B => by
    have ih := pc_b (N := N) (S := S) (t := t) (B := B)
    unfold pc
    rw [List.length_cons]
    split <;> omega
section SV2
variable {Q : Int → zM → Prop} {M : zM}
theorem c65 {A : Int → Int → Int → Prop} {S t : Int} (hW : zWC M) (ht : 0 ≤ t ∧ t < M 4 2) (h4 : M 93 4 = t) (hR : zrh M 93 (prs (pnet M) S t)) (hb : ∀ e, e ∈ prs (pnet M) S t → (0 ≤ e.1 ∧ e.1 < M 4 2) ∧ -1584 ≤ e.2 ∧ e.2 ≤ 1584) (hA : ∀ t' l' g', A t' l' g' → t' < t) (hc : 0 ≤ M 92 0 ∧ M 92 0 ≤ 1000) (hB : kB A (M 92 1) (M 92 2) (M 92 3))
    (hQ : ∀ M', (∀ a, a ≠ 92 → M' a = M a) → M' 92 0 = M 92 0 + pc (pnet M) S t (prs (pnet M) S t) → kB (fun t' l' g' => A t' l' g' ∨ (t' = t ∧ ∃ e, e ∈ prs (pnet M) S t ∧ e.1 = l' ∧ pgn (pnet M) (prs (pnet M) S t) t e.2 = g' ∧ phl (pnet M) S t e)) (M' 92 1) (M' 92 2) (M' 92 3) → Q 0 M') : zF 65 Q [(2, 92), (2, 4), (0, t)] M := by
  have key : ∀ (B A0 : List (Int × Int)) (k : Nat) (M' : zM), prs (pnet M) S t = A0 ++ B → k = A0.length → (∀ a, a ≠ 92 → M' a = M a) → M' 92 0 + pc (pnet M) S t B = M 92 0 + pc (pnet M) S t (prs (pnet M) S t) → (0 ≤ M' 92 0 ∧ M' 92 0 ≤ M 92 0 + k) → kB (fun t' l' g' => A t' l' g' ∨ (t' = t ∧ ∃ e, e ∈ A0 ∧ e.1 = l' ∧ pgn (pnet M) (prs (pnet M) S t) t e.2 = g' ∧ phl (pnet M) S t e)) (M' 92 1) (M' 92 2) (M' 92 3) → zS 65 Q 2 [(2, 92), (2, 4), (0, t), (0, (k : Int)), (3, 0), (3, 0)] [] M' := by
    intro B
    induction B with
    | nil =>
      intro A0 k M' hA0 hk hM h1 h2 h3
      rw [List.append_nil] at hA0
      refine s65_2 ⟨fun _ => hQ M' hM ?_ (by rw [hA0]; rw [hA0] at h3; exact h3), fun q => ?_⟩
      · have h1' : M' 92 0 + 0 = M 92 0 + pc (pnet M) S t (prs (pnet M) S t) := h1
        rw [Int.add_zero] at h1'; exact h1'
      · rw [hM 93 (by decide), hR.1, hA0] at q; omega
    | cons e B ih =>
      intro A0 k M' hA0 hk hM h1 h2 h3
      have hget : (prs (pnet M) S t)[k]? = some e := by rw [hA0, hk, List.getElem?_append_right (Nat.le_refl _)]; simp
      obtain ⟨hlt, hge⟩ := List.getElem?_eq_some_iff.mp hget
      have hl16 := hR.2.1
      have heR : e ∈ prs (pnet M) S t := by rw [hA0]; exact List.mem_append_right _ List.mem_cons_self
      have hWM : zWC M' := zWC_cg hW (fun a p q => hM a (by omega))
      have hpM : pnet M' = pnet M := pnet_cg (fun a p q => hM a (by omega))
      have hRM : zrh M' 93 (prs (pnet M) S t) := by
        unfold zrh at hR ⊢
        rw [hM 93 (by decide), hM (93 + 1) (by decide), hM (93 + 2) (by decide)]
        exact hR
      have hA2 : prs (pnet M) S t = (A0 ++ [e]) ++ B := by rw [hA0]; simp
      have e4 : M' 4 = M 4 := hM 4 (by decide)
      have skip : ¬ phl (pnet M) S t e → zS 65 Q 2 [(2, 92), (2, 4), (0, t), (0, zw ((k : Int) + 1)), (3, 0), (3, 0)] [] M' := fun z => by
        rw [zw_id (by omega)]
        have h1 : M' 92 0 + ((@ite _ (phl (pnet M) S t e) (Classical.propDecidable _) 1 0) + pc (pnet M) S t B) = M 92 0 + pc (pnet M) S t (prs (pnet M) S t) := h1
        rw [if_neg z, Int.zero_add] at h1
        refine ih (A0 ++ [e]) (k + 1) M' hA2 (by rw [List.length_append, List.length_singleton, hk]) hM h1 ⟨h2.1, by omega⟩ (kB_cg h3 (fun t' l' g' => ?_))
        constructor
        · rintro (y | ⟨y1, x, y2, y3⟩)
          · exact Or.inl y
          · exact Or.inr ⟨y1, x, List.mem_append_left _ y2, y3⟩
        · rintro (y | ⟨y1, x, y2, y3⟩)
          · exact Or.inl y
          · rcases List.mem_append.mp y2 with y4 | y4
            · exact Or.inr ⟨y1, x, y4, y3⟩
            · rw [List.mem_singleton] at y4
              rw [y4] at y3
              exact absurd y3.2.2 z
      refine s65_2 ⟨fun q => ?_, fun _ => ?_⟩
      · rw [hRM.1] at q; omega
      · refine c52 rfl hWM (by rw [e4]; exact ht) (by rw [hM 93 (by decide)]; exact h4) hRM (by rw [e4]; exact hb) hlt ?_
        rw [hpM, hge]
        refine ⟨fun q => skip (fun z => q (zlcmp_p.mpr z.1)), fun q => ?_⟩
        refine c53 rfl hWM (by rw [e4]; exact ht) (by rw [hM 93 (by decide)]; exact h4) hRM (by rw [e4]; exact hb) hlt (fun q2 => ⟨fun _ => skip (fun z => q2 ?_), fun z => absurd rfl z⟩) (fun q2 => ⟨fun z => absurd z (by decide), fun _ => ⟨by omega, ?_⟩⟩)
        · rw [hpM, hge]; exact z.2
        · rw [hpM, hge] at q2
          have hph : phl (pnet M) S t e := ⟨zlcmp_p.mp q, q2⟩
          have hline : M' 94 k = e.1 := by
            have := kro_at hRM.2.2.1 k (by rw [List.length_map]; exact hlt)
            rw [Int.zero_add, List.getElem_map, hge] at this
            exact this
          rw [hline, zw_id (x := M' 92 0 + 1) (by omega)]
          have h1 : M' 92 0 + ((@ite _ (phl (pnet M) S t e) (Classical.propDecidable _) 1 0) + pc (pnet M) S t B) = M 92 0 + pc (pnet M) S t (prs (pnet M) S t) := h1
          rw [if_pos hph] at h1
          have r0 : zset M' 92 0 (M' 92 0 + 1) 92 0 = M' 92 0 + 1 := by rw [zrow_s, fset_s]
          have r1 : zset M' 92 0 (M' 92 0 + 1) 92 1 = M' 92 1 := by rw [zrow_s, fset_o _ (by decide)]
          have r2 : zset M' 92 0 (M' 92 0 + 1) 92 2 = M' 92 2 := by rw [zrow_s, fset_o _ (by decide)]
          have r3 : zset M' 92 0 (M' 92 0 + 1) 92 3 = M' 92 3 := by rw [zrow_s, fset_o _ (by decide)]
          refine c66 ht.1 (zlcmp_p.mp q) (fun t' l' g' y => ?_) (by rw [r1, r2, r3]; exact h3) (fun M'' k1 k2 k3 => ?_)
          · rcases y with y | y
            · have := hA _ _ _ y; omega
            · omega
          · rw [zw_id (by omega)]
            refine ih (A0 ++ [e]) (k + 1) M'' hA2 (by rw [List.length_append, List.length_singleton, hk]) (fun a ha => by rw [k1 a ha, zrow_o _ ha]; exact hM a ha) (by rw [k2, r0]; omega) (by rw [k2, r0]; omega) (kB_cg k3 (fun t' l' g' => ?_))
            constructor
            · rintro ((y | ⟨y1, x, y2, y3⟩) | ⟨y1, y2, y3⟩)
              · exact Or.inl y
              · exact Or.inr ⟨y1, x, List.mem_append_left _ y2, y3⟩
              · exact Or.inr ⟨y1, e, List.mem_append_right _ (List.mem_singleton.mpr rfl), y2.symm, y3.symm, hph⟩
            · rintro (y | ⟨y1, x, y2, y3⟩)
              · exact Or.inl (Or.inl y)
              · rcases List.mem_append.mp y2 with y4 | y4
                · exact Or.inl (Or.inr ⟨y1, x, y4, y3⟩)
                · rw [List.mem_singleton] at y4
                  rw [y4] at y3
                  exact Or.inr ⟨y1, y3.1.symm, y3.2.1.symm⟩
  refine s65_0 (key (prs (pnet M) S t) [] 0 M rfl rfl (fun _ _ => rfl) rfl ⟨hc.1, by omega⟩ (kB_cg hB (fun t' l' g' => ⟨fun y => Or.inl y, fun y => y.elim id (fun z => by obtain ⟨_, x, x1, _⟩ := z; cases x1)⟩)))
end SV2
