/-! the reference's reach: goesOnFrom -/
def mgs (N M : zM) (S f : Int) (L : List Int) (M' : zM) (L' : List Int) : Prop := mfx M M' ∧ mN N S M' ∧ mse M' L' ∧ (∃ R, L' = L ++ R) ∧ (∀ i, 0 ≤ i → i < (L.length : Int) → M' 155 i = M 155 i) ∧ (∀ i : Int, (L.length : Int) ≤ i → i < (L'.length : Int) → i < 300 → M' 155 i = f + 1)
def mgf (M M' : zM) : Prop := ∀ a i : Int, ¬ (142 ≤ a ∧ a ≤ 153) → a ≠ 156 → ¬ (a = 123 ∧ 31 ≤ i ∧ i ≠ 40) → M' a i = M a i
theorem mgs_f {N M M' M'' : zM} {S f : Int} {L L' : List Int} (h : mgs N M S f L M' L') (g : mgf M' M'') : mgs N M S f L M'' L' := by
  obtain ⟨h1, h2, h3, h4, h5, h6⟩ := h
  have r : ∀ a, ¬ (142 ≤ a ∧ a ≤ 153) → a ≠ 156 → a ≠ 123 → M'' a = M' a := fun a p q s => funext fun i => g a i p q (by omega)
  refine ⟨fun a i p q s => by rw [g a i (by omega) (by omega) (by omega)]; exact h1 a i p q s, ?_, ?_, h4, ?_, ?_⟩
  · exact mN_fr h2 (fun a i p q => g a i (by omega) (by omega) (by omega))
  · unfold mse; rw [g 123 40 (by omega) (by decide) (by omega), r 154 (by omega) (by decide) (by decide)]; exact h3
  · rw [r 155 (by omega) (by decide) (by decide)]; exact h5
  · rw [r 155 (by omega) (by decide) (by decide)]; exact h6
section GO
variable {Q : Int → zM → Prop} {M N : zM} {S0 S f : Int} {L : List Int}
theorem mgs_add {M' M'' : zM} {L' : List Int} {s : Int} (h : mgs N M S f L M' L') (g1 : mmf M' M'') (g2 : mse M'' (padd L' s)) (g3 : ∀ i, 0 ≤ i → i < (L'.length : Int) → M'' 155 i = M' 155 i) (g4 : L'.length < (padd L' s).length → L'.length < 300 → M'' 155 (L'.length : Int) = f + 1) : mgs N M S f L M'' (padd L' s) := by
  obtain ⟨h1, h2, h3, ⟨R, h4⟩, h5, h6⟩ := h
  obtain ⟨R', r'⟩ := padd_pre (L := L') (s := s)
  have hl : L'.length = L.length + R.length := by rw [h4, List.length_append]
  refine ⟨fun a i p q r => by rw [g1 a i (by omega) (by omega) (by omega)]; exact h1 a i p q r, mN_fr h2 (fun a i p q => g1 a i (by omega) (by omega) (by omega)), g2, ⟨R ++ R', by rw [r', h4, List.append_assoc]⟩, fun i i0 i1 => ?_, fun i i0 i1 i2 => ?_⟩
  · rw [g3 i i0 (by omega)]; exact h5 i i0 i1
  · by_cases q : i < (L'.length : Int)
    · rw [g3 i (by omega) q]; exact h6 i i0 q i2
    · have hle : (padd L' s).length ≤ L'.length + 1 := by
        unfold padd
        split
        · omega
        · simp
      have e : i = (L'.length : Int) := by omega
      rw [e]
      exact g4 (by omega) (by omega)
theorem c150 {k : Nat} (hW : pW N) (h : mN N S0 M) (hS : mse M L) (hk : k < L.length) (hk3 : k < 300) (hs : L[k] = S) (hp : psx N S) (hf : M 155 k = f) (hfb : 0 ≤ f ∧ f ≤ 100)
    (hQ : ∀ M', mgs N M S f L M' (pgo N S (N 4 2).toNat L) → Q 0 M') : zF 150 Q [(2, 123), (0, (k : Int))] M := by
  have hm := hW.1
  refine s150_0 ⟨by omega, ?_⟩
  rw [mse_at hS hk hk3, hs]
  refine c148 hW h hp.1.1 hp.2.1 (fun M1 a1 a2 a3 => c121' hW a2 hp.1 a3 (fun v2 hv => ?_))
  have hX := mN_X hW a2 hp.1.1 a3
  have g0 : mgs N M S f L M1 L := ⟨mbx_fx a1, a2, by unfold mse; rw [a1 123 40 (by omega) (by omega) (by omega), show M1 154 = M 154 from funext fun i => a1 154 i (by omega) (by omega) (by omega)]; exact hS, ⟨[], by simp⟩, fun i _ _ => a1 155 i (by omega) (by omega) (by omega), fun i p q _ => by omega⟩
  have h3 : ∀ M' L', mgs N M S f L M' L' → M' 123 3 = N 4 2 := fun M' L' g => g.2.1.1
  have hS' : ∀ M' L', mgs N M S f L M' L' → M' 154 k = S ∧ M' 155 k = f := fun M' L' g => by
    obtain ⟨R, r⟩ := g.2.2.2.1
    have hkl : k < L'.length := by rw [r, List.length_append]; omega
    refine ⟨?_, by rw [g.2.2.2.2.1 k (by omega) (by omega)]; exact hf⟩
    rw [mse_at g.2.2.1 hkl hk3]
    have : L'[k]? = L[k]? := by rw [r, List.getElem?_append_left hk]
    rw [List.getElem?_eq_getElem hkl, List.getElem?_eq_getElem hk] at this
    rw [Option.some.inj this, hs]
  have outer : ∀ (n t : Nat) (M' : zM), ((t : Nat) : Int) + n = N 4 2 → mgs N M S f L M' (pgo N S t L) → zS 150 Q 17 [(2, 123), (0, (k : Int)), (0, v2), (0, (t : Int)), (3, 0), (3, 0)] [] M' := by
    intro n
    induction n with
    | zero =>
      intro t M' ht g
      refine s150_17 ⟨fun _ => hQ M' (by rw [show (N 4 2).toNat = t by omega]; exact g), fun q => ?_⟩
      rw [h3 _ _ g] at q; omega
    | succ n ih =>
      intro t M' ht g
      have ht' : 0 ≤ ((t : Nat) : Int) ∧ ((t : Nat) : Int) < N 4 2 := by omega
      refine s150_17 ⟨fun q => ?_, fun _ => ⟨by omega, fun z => ?_, fun z => ?_⟩⟩
      · rw [h3 _ _ g] at q; omega
      · rw [zw_id (by omega)]
        refine ih (t + 1) M' (by omega) ?_
        rw [pgo_s, if_neg (fun y => z ((mN_tie g.2.1 ht').mpr y))]; exact g
      · have z' : ptie N S t := (mN_tie g.2.1 ht').mp z
        refine c138' hW g.2.1 hp.1 ht' (fun M2 b1 b2 b3 => ?_)
        have g2 : mgs N M S f L M2 (pgo N S t L) := mgs_f g (fun a i p q r => b1 a i (by omega) (by omega))
        have hll : (kls (prg N S t)).length ≤ 24 := by
          have := prs_len (t := (t : Int)) hW hp.1
          unfold prs at this
          rw [List.length_map] at this
          unfold kls
          rw [List.length_map]; exact this
        rw [b2]
        have ringloop : ∀ (B A : List (Int × Int)) (j : Nat) (M3 : zM) (L' : List Int), prg N S t = A ++ B → j = A.length → mgs N M S f L M3 L' → kro (M3 156) 0 (kls (prg N S t)) → plr N S t (B.map (fun e => (e.1, ksg (N 6) (pG N S) e))) L' = plr N S t (prs N S t) (pgo N S t L) → zS 150 Q 78 [(2, 123), (0, (k : Int)), (0, v2), (0, (t : Int)), (0, ((kls (prg N S t)).length : Int)), (0, (j : Int))] [] M3 := by
          intro B
          induction B with
          | nil =>
            intro A j M3 L' hA hj g3 kr hL
            rw [List.append_nil] at hA
            have hlen : (kls (prg N S t)).length = A.length := by unfold kls; rw [List.length_map, hA]
            refine s150_78 ⟨fun _ => ?_, fun q => by omega⟩
            rw [zw_id (by omega)]
            refine ih (t + 1) M3 (by omega) ?_
            rw [pgo_s, if_pos z', ← hL]; exact g3
          | cons e0 B ihB =>
            intro A j M3 L' hA hj g3 kr hL
            have he0 : e0 ∈ prg N S t := by rw [hA]; exact List.mem_append_right _ List.mem_cons_self
            have hlen : (kls (prg N S t)).length = A.length + (B.length + 1) := by unfold kls; rw [List.length_map, hA, List.length_append, List.length_cons]
            have h156 : M3 156 j = e0.1 := by
              have := kro_at kr j (by omega)
              rw [Int.zero_add] at this
              rw [this]
              have e : (kls (prg N S t))[j]? = some e0.1 := by
                unfold kls
                rw [hA, List.map_append, List.getElem?_append_right (by rw [List.length_map]; omega), List.length_map, hj]
                simp
              obtain ⟨_, e'⟩ := List.getElem?_eq_some_iff.mp e
              exact e'
            have hA2 : prg N S t = (A ++ [e0]) ++ B := by rw [hA]; simp
            have hL1 : plr N S t (B.map (fun e => (e.1, ksg (N 6) (pG N S) e))) (@ite _ (pmy N (prs N S t) t (ksg (N 6) (pG N S) e0)) (Classical.propDecidable _) (padd L' (pex S t e0.1)) L') = plr N S t (prs N S t) (pgo N S t L) := hL
            refine s150_78 ⟨fun q => by omega, fun _ => ⟨by omega, ?_⟩⟩
            rw [h156]
            refine c141 hW g3.2.1 hp.1 ht' ((mN_tie g3.2.1 ht').mpr z') he0 (fun M4 k1 k2 k3 k4 => ?_)
            obtain ⟨fl2, ne2, hX2⟩ := k4
            have my := px_may hW hp.1 ht' z'.2.1 he0 hX hX2
            have hz : zand (M4 123 55) (zxor v2 (-1)) = 0 ↔ pmy N (prs N S t) t (ksg (N 6) (pG N S) e0) := (zbear k3 hv).trans my
            have g4 : mgs N M S f L M4 L' := mgs_f g3 (fun a i p q r => k1 a i (by omega) (by omega))
            have kr4 : kro (M4 156) 0 (kls (prg N S t)) := by rw [show M4 156 = M3 156 from funext fun i => k1 156 i (by omega) (by omega)]; exact kr
            have e156 : M4 156 j = e0.1 := by rw [k1 156 j (by omega) (by omega)]; exact h156
            have nx : ∀ M5 L5, mgs N M S f L M5 L5 → M5 156 = M4 156 → plr N S t (B.map (fun e => (e.1, ksg (N 6) (pG N S) e))) L5 = plr N S t (prs N S t) (pgo N S t L) → zS 150 Q 78 [(2, 123), (0, (k : Int)), (0, v2), (0, (t : Int)), (0, ((kls (prg N S t)).length : Int)), (0, zw ((j : Int) + 1))] [] M5 := fun M5 L5 y1 y2 y3 => by
              rw [zw_id (by omega)]
              exact ihB (A ++ [e0]) (j + 1) M5 L5 hA2 (by rw [List.length_append, List.length_singleton, hj]) y1 (by rw [y2]; exact kr4) y3
            refine ⟨fun q => nx M4 L' g4 rfl ?_, fun q => ⟨by omega, ?_⟩⟩
            · rw [if_neg (fun y => q (hz.mpr y))] at hL1; exact hL1
            · rw [if_pos (hz.mp q)] at hL1
              obtain ⟨s1, s2⟩ := hS' _ _ g4
              rw [s1, s2, e156, zw_id (x := f + 1) (by omega)]
              refine c149 (s := pex S t e0.1) g4.2.2.1 (fun M5 y1 y2 y3 y4 => nx M5 _ (mgs_add g4 y1 y2 y3 y4) (funext fun i => y1 156 i (by decide) (by decide) (by omega)) hL1)
        have copyloop : ∀ (n' j : Nat) (M3 : zM), j + n' = (kls (prg N S t)).length → mgs N M S f L M3 (pgo N S t L) → kro (M3 149) 0 (kls (prg N S t)) → (∀ i : Int, 0 ≤ i → i < (j : Int) → M3 156 i = M3 149 i) → zS 150 Q 48 [(2, 123), (0, (k : Int)), (0, v2), (0, (t : Int)), (0, ((kls (prg N S t)).length : Int)), (0, (j : Int))] [] M3 := by
          intro n'
          induction n' with
          | zero =>
            intro j M3 hj g3 kr hc
            refine s150_48 ⟨fun _ => ringloop (prg N S t) [] 0 M3 _ rfl rfl g3 ?_ rfl, fun q => by omega⟩
            exact kro_cg (fun i i0 i1 => hc i (by omega) (by omega)) kr
          | succ n' ihn =>
            intro j M3 hj g3 kr hc
            refine s150_48 ⟨fun q => by omega, fun _ => ⟨by omega, ?_⟩⟩
            rw [zw_id (by omega)]
            refine ihn (j + 1) _ (by omega) (mgs_f g3 (fun a i p q r => by rw [zrow_o _ q])) (by rw [zrow_o _ (by decide)]; exact kr) (fun i i0 i1 => ?_)
            rw [zrow_s, zrow_o _ (show (149 : Int) ≠ 156 by decide)]
            by_cases e : i = (j : Int)
            · rw [e, fset_s]
            · rw [fset_o _ e]; exact hc i i0 (by omega)
        exact copyloop (kls (prg N S t)).length 0 M2 (by omega) g2 b3 (fun i i0 i1 => by omega)
  exact outer (N 4 2).toNat 0 M1 (by omega) g0
end GO
