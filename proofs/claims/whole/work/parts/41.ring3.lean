/-! the class: Ring.find, the whole -/
section RG3
variable {Q : Int → zM → Prop} {M : zM} {f g : Int}
/-- the second side comes behind the first, backwards -/
theorem c50_b (kf : zKT f = (2, 0)) (kg : zKT g = (2, 5)) (hfg : ¬ (g ≤ f + 5 ∧ f + 5 ≤ g + 3)) {v3 v4 v5 v6 : Int} {by' G : Int → Int} (hG : ∀ y, G y = - M (f + 5) (by' y)) (hx : ∀ l, 0 ≤ l → l < 24 → 0 ≤ M (f + 5) l ∧ M (f + 5) l ≤ 1584) :
    ∀ (ys : List Int) (A B : List Int) (M' : zM), zfm g (g + 3) M M' → M' g 0 = A.length → A.length + ys.length ≤ 16 → (∀ y, y ∈ ys → 0 ≤ by' y ∧ by' y < 24) → A.length = B.length → kro (M' (g + 1)) 0 A → kro (M' (g + 2)) 0 B → kro (M' (g + 3)) 0 (ys.reverse.map by') →
    (∀ M'', zfm g (g + 3) M M'' → M'' g 4 = M' g 4 → M'' g 0 = (A ++ ys.map by').length → kro (M'' (g + 1)) 0 (A ++ ys.map by') → kro (M'' (g + 2)) 0 (B ++ ys.map G) → Q 0 M'') →
    zS 50 Q 176 [(2, g), (2, 4), (2, f), (0, v3), (0, v4), (0, v5), (0, v6), (0, (ys.length : Int) - 1), (3, 0)] [] M'
  | [], A, B, M', h1, h2, h3, h4, h5, h6, h7, h8, hQ => by
    refine s50_176 kf kg ⟨fun _ => ?_, fun q => absurd (show ((([] : List Int).length : Int) - 1 < 0) by decide) q⟩
    refine hQ M' h1 rfl ?_ ?_ ?_
    · simpa using h2
    · simpa using h6
    · simpa using h7
  | y :: ys, A, B, M', h1, h2, h3, h4, h5, h6, h7, h8, hQ => by
    have hl : ((y :: ys).length : Int) - 1 = ys.length := by simp
    simp only [List.length_cons] at h3
    rw [hl]
    refine s50_176 kf kg ⟨fun q => by omega, fun _ => ⟨by omega, ?_⟩⟩
    have hy : M' (g + 3) ys.length = by' y := by
      rw [List.reverse_cons, List.map_append, kro_app] at h8
      have := h8.2.1
      simpa using this
    have h8' : kro (M' (g + 3)) 0 (ys.reverse.map by') := by
      rw [List.reverse_cons, List.map_append, kro_app] at h8
      exact h8.1
    have hyb := h4 y (List.mem_cons_self)
    have e5 : M' (f + 5) = M (f + 5) := zfm_row h1 hfg
    rw [hy]
    refine c55 kf kg (by omega) hyb (by rw [e5]; exact hx _ hyb.1 hyb.2) (Or.inr rfl) ?_
    rw [zw_id (by omega), show (ys.length : Int) + -1 = (ys.length : Int) - 1 by omega]
    refine c50_b kf kg hfg hG hx ys (A ++ [by' y]) (B ++ [G y]) _ (zfm_t h1 (zrad_f ⟨g, rfl⟩)) ?_ ?_ (fun z hz => h4 z (List.mem_cons_of_mem _ hz)) (by simp [h5]) ?_ ?_ ?_ (fun M'' q1 q2 q3 q4 q5 => hQ M'' q1 ?_ ?_ ?_ ?_)
    · rw [zrad_0, fset_s, h2, List.length_append]; rfl
    · simp only [List.length_append, List.length_singleton]; omega
    · rw [zrad_1, h2]; exact kro_push h6
    · rw [zrad_2, h2, h5, e5, hG, show (-1 : Int) * M (f + 5) (by' y) = - M (f + 5) (by' y) by omega]; exact kro_push h7
    · rw [zrad_3]; exact h8'
    · rw [q2, zrad_0, fset_o _ (by decide)]
    · rw [q3]; simp
    · simpa using q4
    · simpa using q5
theorem c50 {t : Int} (kf : zKT f = (2, 0)) (hf : f = 12 ∨ f = 100) (kg : zKT g = (2, 5)) (hW : zWC M) (hO : zFO M f) (hcl : ∀ l, tbs (M f 0) l → l < M 4 2) (ht : 0 ≤ t ∧ t < M 4 2)
    (hQ : ∀ M' P, zfm g (g + 3) M M' → M' g 4 = t → M' g 0 = (P.length : Int) → P.length ≤ 16 → kro (M' (g + 1)) 0 (kls P) → kro (M' (g + 2)) 0 (P.map (ksg (M 6) (kG (M 6) (M 7) (M (f + 5)) (M (f + 6))))) → (kRing (tbs (M 4 1)) (M 6) (M 7) (tbs (M f 0)) t P ∨ (P = [] ∧ kNo (tbs (M 4 1)) (M 6) (M 7) (tbs (M f 0)) t)) → Q 0 M') : zF 50 Q [(2, g), (2, 4), (2, f), (0, t)] M := by
  have hg := zin_5 kg
  obtain ⟨W1, W2, W3, W4, W5, W6⟩ := id hW
  obtain ⟨o1, o2, o3, o4, o5, o6, o7, o8, o9⟩ := id hO
  have hl := (W5 t ht.1 ht.2).1
  have hc : ∀ l, tbs (M f 0) l → (0 ≤ l ∧ l < 24) ∧ ¬ M 6 l = M 7 l := fun l q => by
    have h1 := q.1
    have h2 := hcl l q
    exact ⟨by omega, (W5 l h1.1 h2).1.2.2.1⟩
  have hc' : ∀ l, tbs (M f 0) l → 0 ≤ l ∧ ¬ M 6 l = M 7 l := fun l q => ⟨(hc l q).1.1, (hc l q).2⟩
  have hth : ∀ v, tbs (M 4 0) v → 0 ≤ v ∧ v < 16 := fun v q => ⟨q.1.1, W2 v q⟩
  have hx := o6.2.2.2.2
  have hlt : ∀ v, tbs (M f 2) v → tbs (M 4 0) v := fun v q => ((o5 v).mp q).1
  have hby : ∀ x, tbs (M 4 0) x → ¬ M (f + 2) x = -1 → 0 ≤ M (f + 2) x ∧ M (f + 2) x < 24 := fun x hx q => (hc _ (kA_pr o1 hc' hx q).1).1
  have sg : ∀ x, tbs (M 4 0) x → ¬ M (f + 2) x = -1 → ksg (M 6) (kG (M 6) (M 7) (M (f + 5)) (M (f + 6))) (M (f + 2) x, x) = M (f + 5) (M (f + 2) x) ∧ ksg (M 6) (kG (M 6) (M 7) (M (f + 5)) (M (f + 6))) (M (f + 2) x, kpr (M 6) (M 7) (M (f + 2)) x) = - M (f + 5) (M (f + 2) x) := fun x hx q => kA_sg (S := fun _ => True) o1 hc o4 o6 hlt hx q
  -- the loop
  have key : ∀ (n : Nat) (M' : zM) (xs ys : List Int) (u w i : Int), i + M (f + 3) u + M (f + 3) w ≤ 30 → 0 ≤ i → (M (f + 3) u + M (f + 3) w).toNat < n → zfm g (g + 3) M M' → M' g 4 = t → M' g 0 = (xs.length : Int) → kRI (tbs (M 4 0)) (tbs (M 4 1)) (tbs (M f 0)) (M 6) (M 7) (M (f + 1)) (M (f + 2)) (M (f + 3)) (M 6 t) (M 7 t) xs ys u w → kro (M' (g + 1)) 0 (xs.map (M (f + 2))) → kro (M' (g + 2)) 0 (xs.map (fun x => M (f + 5) (M (f + 2) x))) → kro (M' (g + 3)) 0 (ys.reverse.map (M (f + 2))) → zS 50 Q 44 [(2, g), (2, 4), (2, f), (0, t), (0, u), (0, w), (0, (ys.length : Int)), (0, i), (3, 0)] [] M' := by
    intro n
    induction n with
    | zero => intro M' xs ys u w i h1 h2 h3; exact absurd h3 (by omega)
    | succ n ih =>
      intro M' xs ys u w i h1 h2 h3 h4 h5 h6 I h7 h8 h9
      obtain ⟨⟨i1, i2⟩, i3, i4, i5, i6, i7, i8⟩ := id I
      have du := (o1 u i1).1
      have dw := (o1 w i2).1
      have ru := hth u i1
      have rw' := hth w i2
      have hlen := kRI_len hth I
      have e1 : M' (f + 1) = M (f + 1) := zfm_row h4 (by omega)
      have e2 : M' (f + 2) = M (f + 2) := zfm_row h4 (by omega)
      have e3 : M' (f + 3) = M (f + 3) := zfm_row h4 (by omega)
      have e5 : M' (f + 5) = M (f + 5) := zfm_row h4 (by omega)
      have e6 : M' 6 = M 6 := zfm_row h4 (by omega)
      have e7 : M' 7 = M 7 := zfm_row h4 (by omega)
      have bz : ∀ x, tbs (M 4 0) x → 0 < M (f + 3) x → ¬ M (f + 2) x = -1 := fun x hx q z => by
        rcases (o1 x hx).2 with y | ⟨y, _⟩
        · omega
        · rw [z] at y; have := y.1; omega
      have fin : (u = w ∨ (M (f + 3) u = 0 ∧ M (f + 3) w = 0)) → zS 50 Q 176 [(2, g), (2, 4), (2, f), (0, t), (0, u), (0, w), (0, (ys.length : Int)), (0, zw ((ys.length : Int) - 1)), (3, 0)] [] M' := by
        intro q
        rw [zw_id (by omega)]
        have E := kRI_end o1 hc' I q
        have sgx : ∀ x, x ∈ xs → ksg (M 6) (kG (M 6) (M 7) (M (f + 5)) (M (f + 6))) (M (f + 2) x, x) = M (f + 5) (M (f + 2) x) := fun x hx => (sg x (i7 x hx).1 (i7 x hx).2.1).1
        have sgy : ∀ y, y ∈ ys → ksg (M 6) (kG (M 6) (M 7) (M (f + 5)) (M (f + 6))) (M (f + 2) y, kpr (M 6) (M 7) (M (f + 2)) y) = - M (f + 5) (M (f + 2) y) := fun x hx => (sg x (i8 x hx).1 (i8 x hx).2.1).2
        refine c50_b kf kg (by omega) (by' := M (f + 2)) (G := fun y => - M (f + 5) (M (f + 2) y)) (fun y => rfl) hx ys (xs.map (M (f + 2))) (xs.map (fun x => M (f + 5) (M (f + 2) x))) M' h4 (by rw [List.length_map]; exact h6) (by rw [List.length_map]; exact hlen) (fun y hy => hby y (i8 y hy).1 (i8 y hy).2.1) (by rw [List.length_map, List.length_map]) h7 h8 h9 ?_
        intro M'' q1 q2 q3 q4 q5
        have k1 : kls (xs.map (fun x => (M (f + 2) x, x)) ++ ys.map (fun y => (M (f + 2) y, kpr (M 6) (M 7) (M (f + 2)) y))) = xs.map (M (f + 2)) ++ ys.map (M (f + 2)) := by
          unfold kls
          rw [List.map_append, List.map_map, List.map_map]
          rfl
        have k2 : (xs.map (fun x => (M (f + 2) x, x)) ++ ys.map (fun y => (M (f + 2) y, kpr (M 6) (M 7) (M (f + 2)) y))).map (ksg (M 6) (kG (M 6) (M 7) (M (f + 5)) (M (f + 6)))) = xs.map (fun x => M (f + 5) (M (f + 2) x)) ++ ys.map (fun y => - M (f + 5) (M (f + 2) y)) := by
          rw [List.map_append, List.map_map, List.map_map]
          congr 1
          · exact List.map_congr_left (fun x hx => sgx x hx)
          · exact List.map_congr_left (fun x hx => sgy x hx)
        refine hQ M'' (xs.map (fun x => (M (f + 2) x, x)) ++ ys.map (fun y => (M (f + 2) y, kpr (M 6) (M 7) (M (f + 2)) y))) q1 (q2.trans h5) ?_ ?_ ?_ ?_ (Or.inl E)
        · rw [q3]; simp
        · simpa using hlen
        · rw [k1]; exact q4
        · rw [k2]; exact q5
      refine s50_44 kf kg ⟨fun q => by omega, fun _ => c54 kf ru rw' (fun q1 q2 => ⟨fun z => absurd rfl z, fun _ => ⟨ru, rw', fun q3 => ?_, fun q3 => ?_⟩⟩) (fun q => ⟨fun _ => fin (by rw [e3] at q; exact q), fun z => absurd z (by decide)⟩)⟩
      · rw [e3] at q2 q3
        rw [e2]
        have hb := bz w i2 (by omega)
        have I2 := kRI_w o1 hc' I q3 hb
        have l2 := kRI_len hth I2
        rw [List.length_cons] at l2
        have hbb := hby w i2 hb
        obtain ⟨p1, p2, p3, p4, p5⟩ := kA_pr o1 hc' i2 hb
        refine ⟨fun z => absurd z hb, fun _ => ⟨fun z => by omega, fun _ => ⟨by omega, c22 hbb ?_⟩⟩⟩
        generalize hN : zset M' (g + 3) (ys.length : Int) (M (f + 2) w) = N
        have nO : ∀ a, a ≠ g + 3 → N a = M' a := fun a h => by rw [← hN, zrow_o _ h]
        have n3 : N (g + 3) = fset (M' (g + 3)) (ys.length : Int) (M (f + 2) w) := by rw [← hN, zrow_s]
        rw [nO 6 (by omega), nO 7 (by omega), e6, e7, zw_id (x := (ys.length : Int) + 1) (by omega), zw_id (x := i + 1) (by omega), show (ys.length : Int) + 1 = ((w :: ys).length : Int) by simp]
        refine ih N xs (w :: ys) u (kpr (M 6) (M 7) (M (f + 2)) w) (i + 1) (by omega) (by omega) (by omega) (zfm_t h4 (by rw [← hN]; exact zfm_s zfm_r (by omega))) (by rw [nO g (by omega)]; exact h5) (by rw [nO g (by omega)]; exact h6) I2 (by rw [nO _ (by omega)]; exact h7) (by rw [nO _ (by omega)]; exact h8) ?_
        rw [n3, List.reverse_cons, List.map_append]
        have := kro_push (x := M (f + 2) w) h9
        rw [List.length_map, List.length_reverse] at this
        exact this
      · rw [e3] at q2 q3
        rw [e2]
        have hb := bz u i1 (by omega)
        have I2 := kRI_u o1 hc' I q3 q1 hb
        have l2 := kRI_len hth I2
        rw [List.length_append, List.length_singleton] at l2
        have hbb := hby u i1 hb
        obtain ⟨p1, p2, p3, p4, p5⟩ := kA_pr o1 hc' i1 hb
        refine c55 kf kg (by omega) hbb (by rw [e5]; exact hx _ hbb.1 hbb.2) (Or.inl rfl) ⟨fun _ => c22 hbb ?_, fun z => absurd z hb⟩
        have r6 : zrad M' g (M (f + 2) u) (1 * M' (f + 5) (M (f + 2) u)) 6 = M 6 := (zfm_row (zrad_f ⟨g, rfl⟩) (by omega)).trans e6
        have r7 : zrad M' g (M (f + 2) u) (1 * M' (f + 5) (M (f + 2) u)) 7 = M 7 := (zfm_row (zrad_f ⟨g, rfl⟩) (by omega)).trans e7
        rw [r6, r7, zw_id (x := i + 1) (by omega)]
        refine ih _ (xs ++ [u]) ys (kpr (M 6) (M 7) (M (f + 2)) u) w (i + 1) (by omega) (by omega) (by omega) (zfm_t h4 (zrad_f ⟨g, rfl⟩)) (by rw [zrad_0, fset_o _ (by decide)]; exact h5) (by rw [zrad_0, fset_s, h6]; simp) I2 ?_ ?_ (by rw [zrad_3]; exact h9)
        · rw [zrad_1, h6, List.map_append]
          have := kro_push (x := M (f + 2) u) h7
          rw [List.length_map] at this
          exact this
        · rw [zrad_2, h6, List.map_append, e5, Int.one_mul]
          have := kro_push (x := M (f + 5) (M (f + 2) u)) h8
          rw [List.length_map] at this
          exact this
  refine s50_0 kf kg ⟨by omega, ?_⟩
  generalize hN : zset (zset M g 4 t) g 0 0 = N
  have nO : ∀ a, a ≠ g → N a = M a := fun a h => by rw [← hN, zrow_o _ h, zrow_o _ h]
  have n4 : N g 4 = t := by rw [← hN, zrow_s, fset_o _ (by decide), zrow_s, fset_s]
  have n0 : N g 0 = 0 := by rw [← hN, zrow_s, fset_s]
  have nF : zfm g (g + 3) M N := fun a i p => by rw [nO a (by omega)]
  refine c4 kf hl.1 hl.2.1 (fun v a b c => ?_) (fun q => ⟨fun z => absurd rfl z, fun _ => ?_⟩) (fun q => ⟨fun _ => ?_, fun z => absurd z (by decide)⟩)
  · rw [nO f (by omega), nO 4 (by omega), nO (f + 1) (by omega), o5 v]
    have : tbs (M 4 0) v := by rcases c with c | c <;> rw [c]; exact hl.2.2.2.1; exact hl.2.2.2.2
    exact ⟨fun z => z.2, fun z => ⟨this, z⟩⟩
  · refine hQ N [] nF n4 (by rw [n0]; rfl) (by decide) trivial trivial (Or.inr ⟨rfl, ?_⟩)
    rw [nO 4 (by omega), nO (f + 1) (by omega)] at q
    refine ⟨fun v => @decide (zsame (tbs (M 4 1)) (M (f + 1)) v (M 6 t)) (Classical.propDecidable _), fun x y a b => ?_, fun l hl => ?_, fun z => ?_⟩
    · have e1 := (o4.1 x a).2.1
      have e2 := (o4.1 y b).2.1
      refine decide_eq_decide.mpr ⟨fun z => ksm_t (Or.inr ⟨by rw [e2]; exact b, by rw [e1]; exact a⟩) z, fun z => ksm_t (Or.inr ⟨by rw [e1]; exact a, by rw [e2]; exact b⟩) z⟩
    · have := o2 l hl
      refine decide_eq_decide.mpr ⟨fun z => ksm_t (ksm_s this) z, fun z => ksm_t this z⟩
    · have z1 := decide_eq_decide.mp z
      exact q (ksm_s (z1.mp (ksm_r _)))
  · rw [nO 4 (by omega), nO (f + 1) (by omega)] at q
    have d1 := (o1 _ hl.2.2.2.1).1
    have d2 := (o1 _ hl.2.2.2.2).1
    have := key ((M (f + 3) (M 6 t) + M (f + 3) (M 7 t)).toNat + 1) N [] [] (M 6 t) (M 7 t) 0 (by omega) (by omega) (by omega) nF n4 (by rw [n0]; rfl) ⟨⟨hl.2.2.2.1, hl.2.2.2.2⟩, q, ksm_r _, ksm_r _, List.nodup_nil, (fun x z => by cases z), (fun x z => by cases z)⟩ trivial trivial trivial
    exact this
end RG3
