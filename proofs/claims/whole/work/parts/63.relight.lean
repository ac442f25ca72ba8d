/-! the class's relight: gather, linesOf, note, isSound, tryOut, find -/
theorem pcl_mono {N : zM} {S : Int} (t : Nat) : ∀ n : Nat, (pcl N S t).length ≤ (pcl N S (t + n)).length
  | 0 => Nat.le_refl _
  | n + 1 => by
    have := pcl_mono (N := N) (S := S) t n
    rw [show t + (n + 1) = (t + n) + 1 by omega, pcl_s]
    split
    · rw [List.length_append, List.length_singleton]; omega
    · exact this
theorem tbs_nat {s k : Nat} (hk : k < 32) : tbs (s : Int) (k : Int) ↔ s.testBit k = true := by
  unfold tbs
  rw [tb_nat hk]
  exact ⟨fun z => z.2, fun z => ⟨by omega, z⟩⟩
noncomputable def pC (N : zM) (S : Int) : List Int := pcl N S (N 4 2).toNat
theorem pC_in {N : zM} {S : Int} (hW : pW N) : ∀ x, x ∈ pC N S → 0 ≤ x ∧ x < N 4 2 := fun x hx => by
  have := (pcl_in _ x hx).1
  have := hW.1
  omega
def zrs (M : zM) (C : List Int) : Prop := M 112 4 = (C.length : Int) ∧ C.length ≤ 12 ∧ kro (M 113) 0 C
def zsd (M : zM) (n : Nat) (P : Nat → Prop) : Prop := ∀ s : Nat, s < 4096 → (tb (M 114 ((s / 32 : Nat) : Int)) ((s % 32 : Nat) : Int) = true ↔ s < n ∧ P s)
section RL
variable {Q : Int → zM → Prop} {M : zM}
theorem c44 (hW : zWC M) (hO : zFO M 12) (h12 : M 12 0 = M 4 3)
    (h0 : ∀ M', (∀ a i, a ≠ 113 → ¬ (a = 112 ∧ i = 4) → M' a i = M a i) → 12 < (pC (pnet M) (M 4 3)).length → Q 0 M')
    (h1 : ∀ M', (∀ a i, a ≠ 113 → ¬ (a = 112 ∧ i = 4) → M' a i = M a i) → zrs M' (pC (pnet M) (M 4 3)) → Q 1 M') : zF 44 Q [(2, 112), (2, 4), (2, 12)] M := by
  have hm := hW.1
  have hli : ∀ v, tbs (M 12 2) v ↔ pli (pnet M) (M 4 3) v := fun v => by rw [← h12]; exact zFO_li hO v
  have e42 : (pnet M 4 2).toNat = (M 4 2).toNat := by rw [pnet_42]
  unfold pC at h0 h1
  rw [e42] at h0 h1
  have key : ∀ (n t : Nat) (M' : zM), ((t : Nat) : Int) + n = M 4 2 → (∀ a i, a ≠ 113 → ¬ (a = 112 ∧ i = 4) → M' a i = M a i) → zrs M' (pcl (pnet M) (M 4 3) t) → zS 44 Q 7 [(2, 112), (2, 4), (2, 12), (0, (t : Int)), (3, 0)] [] M' := by
    intro n
    induction n with
    | zero =>
      intro t M' ht hM hS
      refine s44_7 ⟨fun _ => h1 M' hM (by rw [show (M 4 2).toNat = t by omega]; exact hS), fun q => ?_⟩
      rw [hM 4 2 (by decide) (by omega)] at q; omega
    | succ n ih =>
      intro t M' ht hM hS
      have row : ∀ a, a ≠ 113 → a ≠ 112 → M' a = M a := fun a p q => funext fun i => hM a i p (by omega)
      have hr : ∀ a, 4 ≤ a → a ≤ 11 → M' a = M a := fun a p q => row a (by omega) (by omega)
      have e4 : M' 4 = M 4 := row 4 (by decide) (by decide)
      have e12 : M' 12 = M 12 := row 12 (by decide) (by decide)
      have e6 : M' 6 = M 6 := row 6 (by decide) (by decide)
      have e7 : M' 7 = M 7 := row 7 (by decide) (by decide)
      have hpM : pnet M' = pnet M := pnet_cg hr
      have hw := (hW.2.2.2.2.1 t (by omega) (by omega)).1
      have skip : ¬ pcd (pnet M) (M 4 3) t → zS 44 Q 7 [(2, 112), (2, 4), (2, 12), (0, zw ((t : Int) + 1)), (3, 0)] [] M' := fun z => by
        rw [zw_id (by omega)]
        refine ih (t + 1) M' (by omega) hM ?_
        rw [pcl_s, if_neg z]; exact hS
      have add : pcd (pnet M) (M 4 3) t → (((M' 112 4) < 12 → (0 ≤ M' 112 4 ∧ M' 112 4 < 12) ∧ zS 44 Q 7 [(2, 112), (2, 4), (2, 12), (0, zw ((t : Int) + 1)), (3, 0)] [] (zset (zset M' 113 (M' 112 4) (t : Int)) 112 4 (zw ((M' 112 4) + 1)))) ∧ (¬ (M' 112 4) < 12 → Q 0 M')) := fun z => by
        obtain ⟨s1, s2, s3⟩ := hS
        refine ⟨fun q => ⟨by omega, ?_⟩, fun q => h0 M' hM ?_⟩
        · rw [s1, zw_id (x := (t : Int) + 1) (by omega), zw_id (by omega)]
          refine ih (t + 1) _ (by omega) (fun a i p q => ?_) ?_
          · rw [← hM a i p q]; unfold zset; rw [if_neg (fun y => q y), if_neg (fun y => p y.1)]
          · rw [pcl_s, if_pos z]
            refine ⟨by rw [zrow_s, fset_s, List.length_append, List.length_singleton]; omega, by rw [List.length_append, List.length_singleton]; omega, ?_⟩
            rw [zrow_o _ (by decide), zrow_s]
            exact kro_push s3
        · have := pcl_mono (N := pnet M) (S := M 4 3) (t + 1) n
          rw [show (M 4 2).toNat = t + 1 + n by omega]
          rw [pcl_s, if_pos z, List.length_append, List.length_singleton] at this
          omega
      have tie : ((¬ pli (pnet M) (M 4 3) (M 6 t)) ∨ (¬ pli (pnet M) (M 4 3) (M 7 t))) → zF 21 (fun x6 M7 => ((¬ x6 = 0 → (((M7 112 4) < 12 → (0 ≤ M7 112 4 ∧ M7 112 4 < 12) ∧ zS 44 Q 7 [(2, 112), (2, 4), (2, 12), (0, zw ((t : Int) + 1)), (3, 0)] [] (zset (zset M7 113 (M7 112 4) (t : Int)) 112 4 (zw ((M7 112 4) + 1)))) ∧ (¬ (M7 112 4) < 12 → Q 0 M7))) ∧ (x6 = 0 → zS 44 Q 7 [(2, 112), (2, 4), (2, 12), (0, zw ((t : Int) + 1)), (3, 0)] [] M7))) [(2, 4), (0, (t : Int)), (0, M' 4 3)] M' := fun z => by
        refine c21 (by rw [e4]; exact hm) (by omega) (fun y => ⟨fun x => absurd rfl x, fun _ => skip (fun x => ?_)⟩) (fun y => ⟨fun _ => add ⟨?_, ?_⟩, fun x => absurd x (by decide)⟩)
        · rw [hpM, e4] at y; exact y x.1
        · rw [hpM, e4] at y; exact y
        · rw [pnet_6, pnet_7]; exact z
      refine s44_7 ⟨fun q => ?_, fun _ => ⟨by omega, ?_⟩⟩
      · rw [e4] at q; omega
      · rw [e6]
        refine c2 rfl (by omega) (fun z => ⟨fun _ => tie (Or.inl ?_), fun y => absurd rfl y⟩) (fun z => ⟨fun y => absurd y (by decide), fun _ => ?_⟩)
        · rw [e12, hli] at z; exact z
        · rw [e12, hli] at z
          rw [e7]
          refine c2 rfl (by omega) (fun z2 => ⟨fun _ => tie (Or.inr ?_), fun y => absurd rfl y⟩) (fun z2 => ⟨fun y => absurd y (by decide), fun _ => skip (fun y => ?_)⟩)
          · rw [e12, hli] at z2; exact z2
          · rw [e12, hli] at z2
            have := y.2
            rw [pnet_6, pnet_7] at this
            rcases this with w | w
            · exact w z
            · exact w z2
  refine s44_0 (key (M 4 2).toNat 0 _ (by omega) (fun a i p q => by unfold zset; rw [if_neg (fun y => q y)]) ⟨by rw [zrow_s, fset_s]; rfl, by simp [pcl], trivial⟩)
theorem c46 {C : List Int} {s : Nat} (hS : zrs M C) (hC : ∀ x, x ∈ C → 0 ≤ x ∧ x < 24) (hQ : Q (pln C s) M) : zF 46 Q [(2, 112), (0, (s : Int))] M := by
  obtain ⟨s1, s2, s3⟩ := hS
  have key : ∀ (n j : Nat) (acc : Int), j + n = C.length → r32 acc → (∀ i, tbs acc i ↔ ∃ k : Nat, ∃ h : k < C.length, k < j ∧ C[k] = i ∧ s.testBit k = true) → zS 46 Q 4 [(2, 112), (0, (s : Int)), (0, acc), (0, (j : Int))] [] M := by
    intro n
    induction n with
    | zero =>
      intro j acc hj hr ha
      refine s46_4 ⟨fun _ => ?_, fun q => by omega⟩
      have : acc = pln C s := tbs_ext hr (pln_r C s) (fun i => by
        rw [ha i, pln_b hC i]
        exact ⟨fun ⟨k, h, _, z⟩ => ⟨k, h, z⟩, fun ⟨k, h, z⟩ => ⟨k, h, by omega, z⟩⟩)
      rw [this]; exact hQ
    | succ n ih =>
      intro j acc hj hr ha
      have hjl : j < C.length := by omega
      have e113 : M 113 j = C[j] := by
        have := kro_at s3 j hjl
        rw [Int.zero_add] at this; exact this
      have hcj := hC _ (List.getElem_mem hjl)
      refine s46_4 ⟨fun q => by omega, fun _ => ⟨fun q => ?_, fun q => ⟨by omega, ?_⟩⟩⟩
      · rw [tbs_shr (by omega), tbs_nat (by omega)] at q
        rw [zw_id (by omega)]
        refine ih (j + 1) acc (by omega) hr (fun i => ?_)
        rw [ha i]
        constructor
        · rintro ⟨k, h, z1, z2, z3⟩; exact ⟨k, h, by omega, z2, z3⟩
        · rintro ⟨k, h, z1, z2, z3⟩
          refine ⟨k, h, ?_, z2, z3⟩
          by_cases e : k = j
          · subst e; exact absurd z3 q
          · omega
      · rw [tbs_shr (by omega), Classical.not_not, tbs_nat (by omega)] at q
        rw [zw_id (by omega), e113]
        refine ih (j + 1) _ (by omega) (zor_r _ _) (fun i => ?_)
        rw [tbs_or, tbs_1 (by omega), ha i]
        constructor
        · rintro (⟨k, h, z1, z2, z3⟩ | z)
          · exact ⟨k, h, by omega, z2, z3⟩
          · exact ⟨j, hjl, by omega, z.symm, q⟩
        · rintro ⟨k, h, z1, z2, z3⟩
          by_cases e : k = j
          · subst e; exact Or.inr z2.symm
          · exact Or.inl ⟨k, h, by omega, z2, z3⟩
  refine s46_0 (key C.length 0 0 (by omega) (by unfold r32; omega) (fun i => ⟨fun z => absurd z (tbs_0 i), fun ⟨k, h, z, _⟩ => by omega⟩))
theorem c47 {s : Nat} (hs : s < 4096) (hQ : Q 0 (zset M 114 ((s / 32 : Nat) : Int) (zor (M 114 ((s / 32 : Nat) : Int)) (zshl 1 ((s % 32 : Nat) : Int))))) : zF 47 Q [(2, 112), (0, (s : Int))] M := by
  refine s47_0 ?_
  rw [zshr_5 hs, zand_31 hs]
  exact ⟨fun q => by omega, fun _ => ⟨fun q => by omega, fun _ => ⟨by omega, hQ⟩⟩⟩
theorem c48 {s : Nat} (hs : s < 4096) (h0 : ¬ tb (M 114 ((s / 32 : Nat) : Int)) ((s % 32 : Nat) : Int) = true → Q 0 M) (h1 : tb (M 114 ((s / 32 : Nat) : Int)) ((s % 32 : Nat) : Int) = true → Q 1 M) : zF 48 Q [(2, 112), (0, (s : Int))] M := by
  refine s48_0 ?_
  rw [zshr_5 hs, zand_31 hs]
  have hb : 0 ≤ ((s % 32 : Nat) : Int) ∧ ((s % 32 : Nat) : Int) < 32 := by omega
  refine ⟨fun q => by omega, fun _ => ⟨fun q => by omega, fun _ => ⟨by omega, fun q => h0 (fun z => ?_), fun q => h1 ?_⟩⟩⟩
  · exact (tbs_shr hb).mp q ⟨hb, z⟩
  · rw [tbs_shr hb, Classical.not_not] at q
    exact q.2
theorem zsd_add {M' : zM} {n : Nat} {P : Nat → Prop} (h : zsd M n P) (hn : n < 4096) (hp : P n) (e : M' 114 = fset (M 114) ((n / 32 : Nat) : Int) (zor (M 114 ((n / 32 : Nat) : Int)) (zshl 1 ((n % 32 : Nat) : Int)))) : zsd M' (n + 1) P := fun s hs => by
  rw [e]
  by_cases q : s / 32 = n / 32
  · rw [q, fset_s, tb_or, Bool.or_eq_true, tb_shl (by omega) (by omega) (by omega) (by omega), decide_eq_true_iff]
    have := h s hs
    rw [q] at this
    rw [this]
    constructor
    · rintro (⟨a, b⟩ | a)
      · exact ⟨by omega, b⟩
      · have : s = n := by omega
        rw [this]; exact ⟨by omega, hp⟩
    · rintro ⟨a, b⟩
      by_cases y : s = n
      · right; rw [y]
      · left; exact ⟨by omega, b⟩
  · rw [fset_o _ (by omega), h s hs]
    constructor
    · rintro ⟨a, b⟩; exact ⟨by omega, b⟩
    · rintro ⟨a, b⟩
      refine ⟨?_, b⟩
      by_cases y : s = n
      · exact absurd (by rw [y]) q
      · omega
theorem zsd_no {n : Nat} {P : Nat → Prop} (h : zsd M n P) (hp : ¬ P n) : zsd M (n + 1) P := fun s hs => by
  rw [h s hs]
  constructor
  · rintro ⟨a, b⟩; exact ⟨by omega, b⟩
  · rintro ⟨a, b⟩
    refine ⟨?_, b⟩
    by_cases y : s = n
    · rw [y] at b; exact absurd b hp
    · omega
end RL
