/-! the class's relight: tryOut, find -/
def zrk (N : zM) (S : Int) (M : zM) : Prop := M 112 7 = 1 ∧ ((M 112 8 = 1 ∧ 12 < (pC N S).length) ∨ (M 112 8 = 0 ∧ (pC N S).length ≤ 12 ∧ kCu N S (pC N S) (2 ^ (pC N S).length) (M 112 0) (M 112 1) (M 112 2)))
/-- in the middle of find -/
def zrmi (N : zM) (S : Int) (M : zM) (n : Nat) : Prop := (M 112 7 = 1 ∧ M 112 8 = 0) ∧ zrs M (pC N S) ∧ zsd M n (psn N S (pC N S)) ∧ kCu N S (pC N S) n (M 112 0) (M 112 1) (M 112 2)
theorem pow12 {c : Nat} (h : c ≤ 12) : 2 ^ c ≤ 4096 ∧ zshl 1 (c : Int) = ((2 ^ c : Nat) : Int) := by
  have key : ∀ c : Nat, c < 13 → 2 ^ c ≤ 4096 ∧ zshl 1 (c : Int) = ((2 ^ c : Nat) : Int) := by decide +kernel
  exact key c (by omega)
section RF
variable {Q : Int → zM → Prop} {M : zM}
theorem pS_b {N : zM} {S : Int} {C : List Int} {s : Nat} (hW : pW N) (hS : ∀ l, tbs S l → l < N 4 2) (hC : ∀ x, x ∈ C → 0 ≤ x ∧ x < N 4 2) : ∀ l, tbs (zor S (pln C s)) l → l < N 4 2 := fun l hl => by
  have hm := hW.1
  rcases tbs_or.mp hl with q | q
  · exact hS l q
  · obtain ⟨k, h1, h2, h3⟩ := (pln_b (fun x hx => by have := hC x hx; omega) l).mp q
    have := hC _ (List.getElem_mem h1)
    omega
theorem c45 {n : Nat} (hW : zWC M) (hO : zFO M 12) (h12 : M 12 0 = M 4 3) (hk : pok (pnet M) (M 4 3)) (hn : n < 4096) (hn0 : 0 < n) (hR : zrmi (pnet M) (M 4 3) M n)
    (hQ : ∀ M', zfm 112 122 M M' → zrmi (pnet M) (M 4 3) M' (n + 1) → Q 0 M') : zF 45 Q [(2, 112), (2, 4), (2, 12), (0, (n : Int))] M := by
  obtain ⟨r1, r2, r3, r4⟩ := hR
  have hpW := pW_of hW
  have hm := hW.1
  have hC := pC_in (S := M 4 3) hpW
  have hC' : ∀ x, x ∈ pC (pnet M) (M 4 3) → 0 ≤ x ∧ x < 24 := fun x hx => by have := hC x hx; have := hpW.1; omega
  have hbits := pS_b (s := n) hpW hk.1 hC
  refine s45_0 (c46 r2 hC' (c1 rfl hW (fun l hl => by have := hbits l hl; rw [pnet_42] at this; exact this) (fun M1 g1 g2 g3 => ?_)))
  have row : ∀ a, ¬ (115 ≤ a ∧ a ≤ 122) → M1 a = M a := fun a ha => zFf_row g1 (by omega)
  have hr : ∀ a, 4 ≤ a → a ≤ 11 → M1 a = M a := fun a p q => row a (by omega)
  have hp1 : pnet M1 = pnet M := pnet_cg hr
  have f1 : zfm 112 122 M M1 := fun a i p => by rw [row a (by omega)]
  have rm1 : zrs M1 (pC (pnet M) (M 4 3)) := by unfold zrs; rw [row 112 (by omega), row 113 (by omega)]; exact r2
  have rd1 : zsd M1 n (psn (pnet M) (M 4 3) (pC (pnet M) (M 4 3))) := by unfold zsd; rw [row 114 (by omega)]; exact r3
  have no : ¬ psn (pnet M) (M 4 3) (pC (pnet M) (M 4 3)) n → Q 0 M1 := fun z => by
    refine hQ M1 f1 ⟨by rw [row 112 (by omega)]; exact r1, rm1, zsd_no rd1 z, ?_⟩
    rw [row 112 (by omega)]
    exact kCu_no r4 (fun y => absurd y z)
  have hrad : M1 115 1 = 1 ↔ prad (pnet M) (zor (M 4 3) (pln (pC (pnet M) (M 4 3)) n)) := by
    have := zFO_rad g3
    rw [hp1, g2] at this; exact this
  have h01 : M1 115 1 = 1 ∨ M1 115 1 = 0 := by
    obtain ⟨_, _, o3, _⟩ := g3
    rcases o3 with ⟨a, _⟩ | ⟨a, _⟩
    · exact Or.inl a
    · exact Or.inr a
  refine ⟨fun q => no (fun z => by have := hrad.mpr z.1; omega), fun q => ?_⟩
  have hr1 := hrad.mp (by omega)
  have ov1 := zFO_ov (zWC_cg hW hr) g3 (by rw [hp1, g2]; exact hr1)
  rw [hp1, g2] at ov1
  have ov0 := zFO_ov hW hO (by rw [h12]; exact hk.2)
  rw [h12] at ov0
  have hlt := zFO_lt g3
  rw [hp1, g2] at hlt
  have be := zbear ov1 ov0
  refine s3_0 rfl ?_
  rw [row 12 (by omega)]
  refine ⟨fun z => ⟨fun y => absurd rfl y, fun _ => no (fun y => z (be.mpr y.2))⟩, fun z => ⟨fun _ => ?_, fun y => absurd y (by decide)⟩⟩
  have sn : psn (pnet M) (M 4 3) (pC (pnet M) (M 4 3)) n := ⟨hr1, be.mp z⟩
  refine c47 hn (c164 (by omega) ?_)
  generalize hM2 : zset M1 114 ((n / 32 : Nat) : Int) (zor (M1 114 ((n / 32 : Nat) : Int)) (zshl 1 ((n % 32 : Nat) : Int))) = M2
  have o2 : ∀ a, a ≠ 114 → M2 a = M1 a := fun a ha => by rw [← hM2, zrow_o _ ha]
  have f2 : zfm 112 122 M M2 := zfm_t f1 (by rw [← hM2]; exact zfm_s zfm_r (by omega))
  have rd2 : zsd M2 (n + 1) (psn (pnet M) (M 4 3) (pC (pnet M) (M 4 3))) := zsd_add rd1 hn sn (by rw [← hM2, zrow_s])
  have rm2 : zrs M2 (pC (pnet M) (M 4 3)) := by unfold zrs; rw [o2 112 (by decide), o2 113 (by decide)]; exact rm1
  have e112 : M2 112 = M 112 := by rw [o2 112 (by decide), row 112 (by omega)]
  rw [o2 115 (by decide), e112, hlt]
  have keep : (plt (pnet M) (zor (M 4 3) (pln (pC (pnet M) (M 4 3)) n)) < M 112 2 ∨ (plt (pnet M) (zor (M 4 3) (pln (pC (pnet M) (M 4 3)) n)) = M 112 2 ∧ M 112 1 ≤ (bct n 24 : Nat))) → Q 0 M2 := fun y => by
    refine hQ M2 f2 ⟨by rw [e112]; exact r1, rm2, rd2, ?_⟩
    rw [e112]
    exact kCu_no r4 (fun _ => y)
  have new : (M 112 2 < plt (pnet M) (zor (M 4 3) (pln (pC (pnet M) (M 4 3)) n)) ∨ (plt (pnet M) (zor (M 4 3) (pln (pC (pnet M) (M 4 3)) n)) = M 112 2 ∧ (bct n 24 : Nat) < M 112 1)) → Q 0 (zset (zset (zset M2 112 0 (pln (pC (pnet M) (M 4 3)) n)) 112 1 ((bct n 24 : Nat) : Int)) 112 2 (plt (pnet M) (zor (M 4 3) (pln (pC (pnet M) (M 4 3)) n)))) := fun y => by
    generalize hM3 : zset (zset (zset M2 112 0 (pln (pC (pnet M) (M 4 3)) n)) 112 1 ((bct n 24 : Nat) : Int)) 112 2 (plt (pnet M) (zor (M 4 3) (pln (pC (pnet M) (M 4 3)) n))) = M3
    have r3' : M3 112 = fset (fset (fset (M2 112) 0 (pln (pC (pnet M) (M 4 3)) n)) 1 ((bct n 24 : Nat) : Int)) 2 (plt (pnet M) (zor (M 4 3) (pln (pC (pnet M) (M 4 3)) n))) := by rw [← hM3, zrow_s, zrow_s, zrow_s]
    have o3 : ∀ a, a ≠ 112 → M3 a = M2 a := fun a ha => by rw [← hM3, zrow_o _ ha, zrow_o _ ha, zrow_o _ ha]
    have f3 : zfm 112 122 M M3 := zfm_t f2 (fun a i p => by rw [o3 a (by omega)])
    refine hQ M3 f3 ⟨?_, ?_, ?_, ?_⟩
    · rw [r3', fset_o _ (by decide), fset_o _ (by decide), fset_o _ (by decide), fset_o _ (by decide), fset_o _ (by decide), fset_o _ (by decide), e112]; exact r1
    · unfold zrs; rw [r3', fset_o _ (by decide), fset_o _ (by decide), fset_o _ (by decide), o3 113 (by decide)]; exact rm2
    · unfold zsd; rw [o3 114 (by decide)]; exact rd2
    · rw [r3', fset_o (j := 0) _ (by decide), fset_o (j := 0) _ (by decide), fset_s, fset_o (j := 1) _ (by decide), fset_s, fset_s]
      exact kCu_up r4 sn y
  exact ⟨fun y => new (Or.inl y), fun y => ⟨fun y2 => keep (by omega), fun y2 => ⟨fun y3 => keep (by omega), fun y3 => new (Or.inr ⟨y2, y3⟩)⟩⟩⟩
theorem kCu_1 {N : zM} {S : Int} {C : List Int} (hr : prad N S) (hr32 : r32 S) : psn N S C 0 ∧ kCu N S C 1 0 0 (plt N S) := by
  have e : zor S (pln C 0) = S := by rw [pln_0]; exact zor_0 hr32
  have s0 : psn N S C 0 := by unfold psn; rw [e]; exact ⟨hr, fun l _ _ h => h⟩
  refine ⟨s0, 0, by omega, s0, (pln_0 C).symm, rfl, by rw [e], fun s' hs' _ => ?_⟩
  have : s' = 0 := by omega
  subst this
  rw [e]
  exact Or.inr ⟨rfl, Or.inr ⟨rfl, Nat.le_refl _⟩⟩
theorem c41 (hW : zWC M) (hO : zFO M 12) (h12 : M 12 0 = M 4 3) (hp : psx (pnet M) (M 4 3)) (hXX : pXX (pnet M)) (hc : M 112 7 = 0 ∨ zrk (pnet M) (M 4 3) M)
    (h0 : ∀ M', zfm 112 122 M M' → zrk (pnet M) (M 4 3) M' → 12 < (pC (pnet M) (M 4 3)).length → Q 0 M') (h1 : ∀ M', zfm 112 122 M M' → zrk (pnet M) (M 4 3) M' → (pC (pnet M) (M 4 3)).length ≤ 12 → Q 1 M') : zF 41 Q [(2, 112), (2, 4), (2, 12)] M := by
  have hpW := pW_of hW
  refine s41_0 ⟨fun q => ?_, fun q => ?_⟩
  · generalize hM1 : zset M 112 7 1 = M1
    have r1 : M1 112 = fset (M 112) 7 1 := by rw [← hM1, zrow_s]
    have o1 : ∀ a, a ≠ 112 → M1 a = M a := fun a ha => by rw [← hM1, zrow_o _ ha]
    have f1 : zfm 112 122 M M1 := by rw [← hM1]; exact zfm_s zfm_r (by omega)
    have hr1 : ∀ a, 4 ≤ a → a ≤ 11 → M1 a = M a := fun a p q => o1 a (by omega)
    have hp1 : pnet M1 = pnet M := pnet_cg hr1
    have e41 : M1 4 = M 4 := o1 4 (by decide)
    have hO1 : zFO M1 12 := zFO_cg hO hr1 (fun a p q => o1 a (by omega))
    refine c44 (zWC_cg hW hr1) hO1 (by rw [o1 12 (by decide), e41]; exact h12) (fun M2 g1 g2 => ⟨fun y => absurd rfl y, fun _ => ?_⟩) (fun M2 g1 g2 => ⟨fun _ => ?_, fun y => absurd y (by decide)⟩)
    · rw [hp1, e41] at g2
      have f2 : zfm 112 122 M (zset M2 112 8 1) := zfm_s (zfm_t f1 (fun a i p => g1 a i (by omega) (by omega))) (by omega)
      refine h0 _ f2 ⟨?_, Or.inl ⟨by rw [zrow_s, fset_s], g2⟩⟩ g2
      rw [zrow_s, fset_o _ (by decide), g1 112 7 (by decide) (by omega), r1, fset_s]
    · rw [hp1, e41] at g2
      have f2 : zfm 112 122 M (zset M2 112 8 0) := zfm_s (zfm_t f1 (fun a i p => g1 a i (by omega) (by omega))) (by omega)
      refine c165 (l := 128) rfl (by decide) (fun M3 k1 k2 => ?_)
      have f3 : zfm 112 122 M M3 := zfm_t f2 (fun a i p => by rw [k1 a (by omega)])
      have e12 : M3 12 = M 12 := zfm_row f3 (by omega)
      rw [e12]
      have hlt : M 12 4 = plt (pnet M) (M 4 3) := by have := zFO_lt hO; rw [h12] at this; exact this
      rw [hlt]
      generalize hM4 : zset (zset (zset M3 112 0 0) 112 1 0) 112 2 (plt (pnet M) (M 4 3)) = M4
      have r4 : M4 112 = fset (fset (fset (M3 112) 0 0) 1 0) 2 (plt (pnet M) (M 4 3)) := by rw [← hM4, zrow_s, zrow_s, zrow_s]
      have o4 : ∀ a, a ≠ 112 → M4 a = M3 a := fun a ha => by rw [← hM4, zrow_o _ ha, zrow_o _ ha, zrow_o _ ha]
      have f4 : zfm 112 122 M M4 := zfm_t f3 (fun a i p => by rw [o4 a (by omega)])
      have hc12 := g2.2.1
      have p12 := pow12 hc12
      obtain ⟨s0, k0⟩ := kCu_1 (C := pC (pnet M) (M 4 3)) hp.1.2 hp.2.2
      have loop : ∀ (m n : Nat) (M' : zM), n + m = 2 ^ (pC (pnet M) (M 4 3)).length → 0 < n → zfm 112 122 M M' → zrmi (pnet M) (M 4 3) M' n → zS 41 Q 85 [(2, 112), (2, 4), (2, 12), (0, (n : Int))] [] M' := by
        intro m
        induction m with
        | zero =>
          intro n M' hn hn0 hM hR
          obtain ⟨t1, t2, t3, t4⟩ := hR
          refine s41_85 ⟨fun _ => h1 M' hM ⟨t1.1, Or.inr ⟨t1.2, hc12, by rw [show 2 ^ (pC (pnet M) (M 4 3)).length = n by omega]; exact t4⟩⟩ hc12, fun y => ?_⟩
          rw [t2.1, p12.2] at y; omega
        | succ m ih =>
          intro n M' hn hn0 hM hR
          have hR' := hR
          obtain ⟨t1, t2, t3, t4⟩ := hR
          have hr : ∀ a, 4 ≤ a → a ≤ 11 → M' a = M a := fun a p q => zfm_row hM (by omega)
          have hpM : pnet M' = pnet M := pnet_cg hr
          have e4 : M' 4 = M 4 := hr 4 (by decide) (by decide)
          have hOM : zFO M' 12 := zFO_cg hO hr (fun a p q => zfm_row hM (by omega))
          have e12 : M' 12 = M 12 := zfm_row hM (by omega)
          refine s41_85 ⟨fun y => ?_, fun _ => ?_⟩
          · rw [t2.1, p12.2] at y; omega
          · rw [zw_id (x := (n : Int) - 1) (by omega), show (n : Int) - 1 = ((n - 1 : Nat) : Int) by omega, zand_nat (by omega) (by omega)]
            have hand : n &&& (n - 1) ≤ n - 1 := Nat.and_le_right
            refine c48 (by omega) (fun z => ⟨fun _ => ?_, fun y => absurd rfl y⟩) (fun z => ⟨fun y => absurd y (by decide), fun _ => ?_⟩)
            · rw [zw_id (by omega)]
              have nz : ¬ psn (pnet M) (M 4 3) (pC (pnet M) (M 4 3)) n := fun y => z ((t3 _ (by omega)).mpr ⟨by omega, psn_mono hpW hXX hp.1.1 (pC_in hpW) (fun k hk => by rw [Nat.testBit_and, Bool.and_eq_true] at hk; exact hk.1) y⟩)
              exact ih (n + 1) M' (by omega) (by omega) hM ⟨t1, t2, zsd_no t3 nz, kCu_no t4 (fun y => absurd y nz)⟩
            · refine c45 (zWC_cg hW hr) hOM (by rw [e12, e4]; exact h12) (by rw [hpM, e4]; exact hp.1) (by omega) hn0 (by rw [hpM, e4]; exact hR') (fun M5 y1 y2 => ?_)
              rw [hpM, e4] at y2
              rw [zw_id (by omega)]
              exact ih (n + 1) M5 (by omega) (by omega) (zfm_t hM y1) y2
      refine c47 (s := 0) (by omega) ?_
      generalize hM5 : zset M4 114 ((0 / 32 : Nat) : Int) (zor (M4 114 ((0 / 32 : Nat) : Int)) (zshl 1 ((0 % 32 : Nat) : Int))) = M5
      have o5 : ∀ a, a ≠ 114 → M5 a = M4 a := fun a ha => by rw [← hM5, zrow_o _ ha]
      have f5 : zfm 112 122 M M5 := zfm_t f4 (by rw [← hM5]; exact zfm_s zfm_r (by omega))
      have e112 : M3 112 = fset (M2 112) 8 0 := by rw [k1 112 (by decide), zrow_s]
      have sd0 : zsd M4 0 (psn (pnet M) (M 4 3) (pC (pnet M) (M 4 3))) := fun s hs => by
        rw [o4 114 (by decide), k2 _ (by omega) (by omega), tb_0]
        exact ⟨fun z => absurd z (by decide), fun z => by omega⟩
      have hone : 1 ≤ 2 ^ (pC (pnet M) (M 4 3)).length := Nat.one_le_two_pow
      refine loop (2 ^ (pC (pnet M) (M 4 3)).length - 1) 1 M5 (by omega) (by omega) f5 ⟨⟨?_, ?_⟩, ?_, ?_, ?_⟩
      · rw [o5 112 (by decide), r4, fset_o _ (by decide), fset_o _ (by decide), fset_o _ (by decide), e112, fset_o _ (by decide), g1 112 7 (by decide) (by omega), r1, fset_s]
      · rw [o5 112 (by decide), r4, fset_o _ (by decide), fset_o _ (by decide), fset_o _ (by decide), e112, fset_s]
      · unfold zrs
        rw [o5 112 (by decide), o5 113 (by decide), r4, fset_o _ (by decide), fset_o _ (by decide), fset_o _ (by decide), e112, fset_o _ (by decide), o4 113 (by decide), k1 113 (by decide), zrow_o _ (by decide)]
        exact g2
      · exact zsd_add sd0 (by omega) s0 (by rw [← hM5, zrow_s])
      · rw [o5 112 (by decide), r4, fset_o (j := 0) _ (by decide), fset_o (j := 0) _ (by decide), fset_s, fset_o (j := 1) _ (by decide), fset_s, fset_s]
        exact k0
  · rcases hc with z | z
    · exact absurd z q
    · rcases z with ⟨z1, ⟨z2, z3⟩ | ⟨z2, z3, z4⟩⟩
      · exact ⟨fun _ => h0 M zfm_r ⟨z1, Or.inl ⟨z2, z3⟩⟩ z3, fun y => by rw [z2] at y; cases y⟩
      · exact ⟨fun y => absurd z2 y, fun _ => h1 M zfm_r ⟨z1, Or.inr ⟨z2, z3, z4⟩⟩ z3⟩
end RF
