/-! all: both sides -/
def vDk (M : zM) : Int := zand (M 4 0) (zxor (M 12 2) (-1))
noncomputable def vAl (M : zM) (i : Int) : Int := if i = 0 then pls (pnet M) (M 4 3) else if i = 1 then plt (pnet M) (M 4 3) else if i = 2 then zsum (fun v => if tb (vDk M) v = true then M 5 v else 0) 16 else if i = 3 then zsum (fun l => if M 132 l = 0 then 1 else 0) (M 4 2).toNat else if i = 4 then pcard (M 4 4) else if i = 5 then pcard (vDk M) else if i = 6 then pcard (M 12 3) else zsum (fun l => if ¬ M 18 l = -1 ∧ M 13 (M 18 l) = phv (tb (M 4 1)) (M 16) 16 then M 8 l * M 17 l * M 17 l else 0) (M 4 2).toNat
section OP10
variable {M : zM} {a1 a2 : Int}
theorem vDk_b {v : Int} (hv : 0 ≤ v ∧ v < 16) : tbs (vDk M) v ↔ tbs (M 4 0) v ∧ ¬ tbs (M 12 2) v := by
  unfold vDk
  rw [tbs_and, tbs_not (by omega)]
theorem vNe (h : Inv M) : ∀ l, 0 ≤ l → l < 24 → M 18 l = -1 ∨ ((0 ≤ M 18 l ∧ M 18 l < 16) ∧ tbs (M 12 2) (M 18 l) ∧ 0 ≤ M 13 (M 18 l)) := fun l a b => by
  obtain ⟨A, hA, ⟨hcP, hn, ⟨hF, hF2⟩, hk⟩, _⟩ := id h
  obtain ⟨o1, o2, o3, o4, o5, o6, o7, o8, o9⟩ := id hF
  by_cases q : M 18 l = -1
  · exact Or.inl q
  · obtain ⟨w, w1, w2, w3, w4, w5, w6, w7, w8⟩ := kF_l o4 o6 a b q
    have := o4.2.1 _ w5
    exact Or.inr ⟨this.1, w5, this.2.1.1.1⟩
theorem c87 {Q : Int → zM → Prop} (h : Inv M) (hb : ¬ (0 ≤ a1 ∧ a1 ≤ 7) → zF 91 Q [(2, 1), (0, -2)] M) (hg : (0 ≤ a1 ∧ a1 ≤ 7) → Q (vAl M a1) M) : zF 87 Q [(2, 1), (0, a1)] M := by
  obtain ⟨A, hA, ⟨hcP, hn, ⟨hF, hF2⟩, hk⟩, ⟨hmP, hmN, hLS⟩, hT, hR⟩ := id h
  obtain ⟨hW, hp, hd, hr0, hr1, hr4⟩ := id hn
  obtain ⟨o1, o2, o3, o4, o5, o6, o7, o8, o9⟩ := id hF
  have hm := hW.1
  have e5 := zFO_ls hW hF (by rw [hF2]; exact hp.1.2)
  have e4 := zFO_lt hF
  rw [hF2] at e5 e4
  unfold vAl at hg
  have hdk : ∀ v, tbs (vDk M) v → v < 24 := fun v hv => by
    have := hW.2.1 v (by unfold vDk at hv; exact (tbs_and.mp hv).1)
    omega
  refine s87_0 ⟨fun y => ?_, fun y0 => ⟨fun y => ?_, fun y1 => ⟨fun y => c24 (fun v a b => (hW.2.2.2.1 v a b).1) ?_, fun y2 => ⟨fun y => c20 hm (fun r hr hrr => c164' hr (fun i hi => ?_) ?_), fun y3 => ⟨fun y => c164' hr4 (fun i hi => by have := hd i hi; omega) ?_, fun y4 => ⟨fun y => c164' (zand_r _ _) hdk ?_, fun y5 => ⟨fun y => c164' o9.1 (fun i hi => ?_) ?_, fun y6 => ⟨fun y => c5 (c6 hW (fun l a b => o6.2.2.2.2 l a b) (fun l a b => (vNe h l a b).imp id (fun z => z.1)) ?_), fun y7 => hb (by omega)⟩⟩⟩⟩⟩⟩⟩⟩
  · have g := hg (by omega); rw [if_pos y] at g; rw [e5]; exact g
  · have g := hg (by omega); rw [if_neg y0, if_pos y] at g; rw [e4]; exact g
  · have g := hg (by omega); rw [if_neg y0, if_neg y1, if_pos y] at g; exact g
  · have := ((hrr i).mp hi).1; rw [pnet_42] at this; omega
  · have g := hg (by omega); rw [if_neg y0, if_neg y1, if_neg y2, if_pos y] at g
    rw [cnt_mask (c := 0) (f := M 132) hm (fun l hl => by have := ((hrr l).mp hl).1; rw [pnet_42] at this; omega) (fun l l0 l1 => by rw [hrr, mN_tie hmN (by rw [pnet_42]; exact ⟨l0, l1⟩)])]
    exact g
  · have g := hg (by omega); rw [if_neg y0, if_neg y1, if_neg y2, if_neg y3, if_pos y] at g; exact g
  · have g := hg (by omega); rw [if_neg y0, if_neg y1, if_neg y2, if_neg y3, if_neg y4, if_pos y] at g; exact g
  · have := ((o9.2 i hi.1.1 hi.1.2).mp hi.2).1; omega
  · have g := hg (by omega); rw [if_neg y0, if_neg y1, if_neg y2, if_neg y3, if_neg y4, if_neg y5, if_pos y] at g; exact g
  · have g := hg (by omega); rw [if_neg y0, if_neg y1, if_neg y2, if_neg y3, if_neg y4, if_neg y5, if_neg y6] at g; exact g
theorem c159 {Qm : Int → zM → Prop} {M1 : zM} (h : Inv M) (h1 : mst M M1) (ha : 0 ≤ a1 ∧ a1 ≤ 7) (hg : Qm (vAl M a1) M1) : zF 159 Qm [(2, 123), (0, a1)] M1 := by
  obtain ⟨A, hA, ⟨hcP, hn, ⟨hF, hF2⟩, hk⟩, ⟨hmP, hmN, hLS⟩, hT, hR⟩ := id h
  obtain ⟨hW, hp, hd, hr0, hr1, hr4⟩ := id hn
  obtain ⟨o1, o2, o3, o4, o5, o6, o7, o8, o9⟩ := id hF
  have hm := hW.1
  have hpW := pW_of hW
  have h3 : M1 123 3 = M 4 2 := by rw [h1.1.1, pnet_42]
  have hv : ∀ v, 0 ≤ v → v < 16 → (tbs (vDk M) v ↔ M1 126 v = 2 ∧ M1 142 v = -1) ∧ M1 127 v = M 5 v := fun v v0 v1 => by
    have k := h1.1.2.1 v v0 v1
    rw [pnet_41, pnet_40, pnet_5] at k
    have w := (vw_v h h1 v0 v1).1
    refine ⟨?_, k.2.2.1⟩
    rw [vDk_b ⟨v0, v1⟩, w, k.2.1]
    have L : tbs (M 4 1) v → ¬ M1 142 v = -1 := fun z => w.mp (o4.1 v z).1
    constructor
    · rintro ⟨a, b⟩
      have b : M1 142 v = -1 := Classical.byContradiction b
      refine ⟨?_, b⟩
      have : ¬ M1 126 v = 1 := fun z => L (k.1.mpr z) b
      omega
    · rintro ⟨a, b⟩
      exact ⟨by omega, fun z => z b⟩
  have hl : ∀ l, 0 ≤ l → l < M 4 2 → M1 130 l = M 8 l ∧ M1 131 l = M 9 l ∧ (tbs (M 4 4) l ↔ M1 132 l = 2) := fun l l0 l1 => by
    have k := h1.1.2.2 l l0 (by rw [pnet_42]; exact l1)
    rw [pnet_8, pnet_9, pnet_44] at k
    exact ⟨k.2.2.1, k.2.2.2.1, k.2.2.2.2.2.1⟩
  unfold vAl at hg
  refine s159_0 ⟨fun y => ?_, fun y0 => ⟨fun y => ?_, fun y1 => ⟨fun y => ?_, fun y2 => ⟨fun y => ?_, fun y3 => ⟨fun y => ?_, fun y4 => ⟨fun y => ?_, fun y5 => ⟨fun y => ?_, fun y6 => ?_⟩⟩⟩⟩⟩⟩⟩
  · rw [if_pos y] at hg
    exact c120 hpW h1.1 ⟨hp.1.1, hp.1.2⟩ h1.2.1 hg
  · rw [if_neg y0, if_pos y] at hg
    exact c122' hpW h1.1 hp.1.1 h1.2.1 hg
  · rw [if_neg y0, if_neg y1, if_pos y] at hg
    refine c158 (f := fun v => if tb (vDk M) v = true then M 5 v else 0) (fun v a b => ?_) (fun v a b => ?_) hg
    · have := (hW.2.2.2.1 v a b).1
      show 0 ≤ (if tb (vDk M) v = true then M 5 v else 0) ∧ (if tb (vDk M) v = true then M 5 v else 0) ≤ 99
      split <;> omega
    · show (if tb (vDk M) v = true then M 5 v else 0) = _
      have k := hv v a b
      by_cases q : M1 126 v = 2 ∧ M1 142 v = -1
      · rw [if_pos q, if_pos y, k.2, if_pos (k.1.mpr q).2]
      · rw [if_neg q, if_neg (fun z => q (k.1.mp ⟨by omega, z⟩))]
  · rw [if_neg y0, if_neg y1, if_neg y2, if_pos y] at hg
    refine c135 (by rw [h3]; exact hm) ?_
    rw [h3, h1.2.2 132 (by omega)]; exact hg
  · rw [if_neg y0, if_neg y1, if_neg y2, if_neg y3, if_pos y] at hg
    refine c135 (by rw [h3]; exact hm) ?_
    rw [cnt_mask (c := 2) (f := M1 132) hm hd (fun l l0 l1 => (hl l l0 l1).2.2)] at hg
    rw [h3]; exact hg
  · rw [if_neg y0, if_neg y1, if_neg y2, if_neg y3, if_neg y4, if_pos y] at hg
    have e : pcard (vDk M) = zsum (fun v => if tb (vDk M) v = true then 1 else 0) 16 := by
      unfold pcard
      exact zsum_ext (m := 16) 24 (by omega) (fun i a b => by
        rw [if_neg (fun z => ?_)]
        have hz : tbs (vDk M) i := ⟨by omega, z⟩
        have := hW.2.1 i (by unfold vDk at hz; exact (tbs_and.mp hz).1)
        omega)
    rw [e] at hg
    refine c158 (f := fun v => if tb (vDk M) v = true then 1 else 0) (fun v a b => ?_) (fun v a b => ?_) hg
    · show 0 ≤ (if tb (vDk M) v = true then (1 : Int) else 0) ∧ (if tb (vDk M) v = true then (1 : Int) else 0) ≤ 99
      split <;> omega
    · show (if tb (vDk M) v = true then (1 : Int) else 0) = _
      have k := hv v a b
      by_cases q : M1 126 v = 2 ∧ M1 142 v = -1
      · rw [if_pos q, if_neg y2, if_pos (k.1.mpr q).2]
      · rw [if_neg q, if_neg (fun z => q (k.1.mp ⟨by omega, z⟩))]
  · rw [if_neg y0, if_neg y1, if_neg y2, if_neg y3, if_neg y4, if_neg y5, if_pos y] at hg
    have e := cnt_mask (x := M 12 3) (c := 1) (f := fun l => if M1 131 l < M1 147 l then 1 else 0) hm (fun l hl' => ((o9.2 l hl'.1.1 hl'.1.2).mp hl'.2).1) (fun l l0 l1 => by
      show tbs (M 12 3) l ↔ (if M1 131 l < M1 147 l then (1 : Int) else 0) = 1
      have o : tb (M 12 3) l = true ↔ l < M 4 2 ∧ M 9 l < M (12 + 5) l := o9.2 l l0 (by omega)
      have e17 : M (12 + 5) l = M1 147 l := (vw_l h h1 l0 (by omega)).1
      rw [e17, ← (hl l l0 l1).2.1] at o
      by_cases q : M1 131 l < M1 147 l
      · rw [if_pos q]; exact ⟨fun _ => rfl, fun _ => ⟨by omega, o.mpr ⟨l1, q⟩⟩⟩
      · rw [if_neg q]; exact ⟨fun z => absurd (o.mp z.2).2 q, fun z => absurd z (by decide)⟩)
    have e' : pcard (M 12 3) = zsum (fun l => if M1 131 l < M1 147 l then 1 else 0) (M 4 2).toNat := by
      rw [e]
      refine zsum_congr _ (fun i hi => ?_)
      show (if (if M1 131 i < M1 147 i then (1 : Int) else 0) = 1 then (1 : Int) else 0) = _
      by_cases q : M1 131 i < M1 147 i
      · rw [if_pos q, if_pos rfl]
      · rw [if_neg q, if_neg (by decide)]
    rw [e'] at hg
    have hb : ∀ n : Nat, n ≤ (M 4 2).toNat → 0 ≤ zsum (fun l => if M1 131 l < M1 147 l then 1 else 0) n ∧ zsum (fun l => if M1 131 l < M1 147 l then 1 else 0) n ≤ 1 * n := fun n _ => zsum_b n (fun i _ => by split <;> omega)
    have loop : ∀ (n k : Nat), ((k : Nat) : Int) + n = M 4 2 → zS 159 Qm 80 [(2, 123), (0, a1), (0, zsum (fun l => if M1 131 l < M1 147 l then 1 else 0) k), (0, (k : Int))] [] M1 := by
      intro n
      induction n with
      | zero =>
        intro k hk
        rw [show k = (M 4 2).toNat by omega]
        exact s159_80 ⟨fun _ => hg, fun z => by rw [h3] at z; omega⟩
      | succ n ih =>
        intro k hk
        have b := hb k (by omega)
        have e : zsum (fun l => if M1 131 l < M1 147 l then 1 else 0) (k + 1) = zsum (fun l => if M1 131 l < M1 147 l then 1 else 0) k + (if M1 131 k < M1 147 k then 1 else 0) := rfl
        have nx := ih (k + 1) (by omega)
        rw [e] at nx
        refine s159_80 ⟨fun z => by rw [h3] at z; omega, fun _ => ⟨by omega, fun z => ?_, fun z => ?_⟩⟩
        · rw [if_neg z] at nx
          rw [zw_id (x := (k : Int) + 1) (by omega), zw_id (by omega)]; exact nx
        · rw [if_pos z] at nx
          rw [zw_id (x := (k : Int) + 1) (by omega), zw_id (by omega)]; exact nx
    exact loop (M 4 2).toNat 0 (by omega)
  · rw [if_neg y0, if_neg y1, if_neg y2, if_neg y3, if_neg y4, if_neg y5, if_neg y6] at hg
    have hk1 : ∀ v : Int, 0 ≤ v → v < 16 → (tb (M 4 1) v = true ↔ M1 126 v = 1) := fun v v0 v1 => by
      have k := (h1.1.2.1 v v0 v1).1
      rw [pnet_41] at k
      exact ⟨fun z => k.mp ⟨by omega, z⟩, fun z => (k.mpr z).2⟩
    have ep : phv (tb (M 4 1)) (M1 145) 16 = phv (tb (M 4 1)) (M 16) 16 := (phv_cg (m := 16) (fun v v0 v1 z => ((vw_v h h1 v0 (by omega)).2.1 (o4.1 v ⟨by omega, z⟩).1).2.2.2) 16 (by omega)).symm
    refine c157 hk1 ?_
    show (¬ phv (tb (M 4 1)) (M1 145) 16 = -1 → _) ∧ (phv (tb (M 4 1)) (M1 145) 16 = -1 → _)
    rw [ep]
    refine ⟨fun z => c157 hk1 ?_, fun z => ?_⟩
    · show zF 119 _ [(2, 123), (0, phv (tb (M 4 1)) (M1 145) 16)] M1
      rw [ep]
      refine c119 (mN_W hpW h1.1) h1.2.1.2.2.2.2.2.2 (mN_ne hpW h1.1 hp.1.1 h1.2.1) ?_
      have e : zsum (fun l => if phv (tb (M 4 1)) (M 16) 16 = -1 ∨ (¬ M1 148 l = -1 ∧ M1 142 (M1 148 l) = phv (tb (M 4 1)) (M 16) 16) then M1 130 l * M1 147 l * M1 147 l else 0) (M1 123 3).toNat = zsum (fun l => if ¬ M 18 l = -1 ∧ M 13 (M 18 l) = phv (tb (M 4 1)) (M 16) 16 then M 8 l * M 17 l * M 17 l else 0) (M 4 2).toNat := by
        rw [h3]
        refine zsum_congr _ (fun i hi => ?_)
        have q := vw_l h h1 (l := i) (by omega) (by omega)
        rw [← q.1, ← q.2, (hl i (by omega) (by omega)).1]
        rcases vNe h i (by omega) (by omega) with w | w
        · rw [if_neg (fun y => y.elim z (fun y => y.1 w)), if_neg (fun y => y.1 w)]
        · have w2 := ((vw_v h h1 w.1.1 w.1.2).2.1 w.2.1).1
          rw [← w2]
          by_cases u : ¬ M 18 i = -1 ∧ M 13 (M 18 i) = phv (tb (M 4 1)) (M 16) 16
          · rw [if_pos u, if_pos (Or.inr u)]
          · rw [if_neg u, if_neg (fun y => y.elim z u)]
      rw [e]; exact hg
    · have e : zsum (fun l => if ¬ M 18 l = -1 ∧ M 13 (M 18 l) = phv (tb (M 4 1)) (M 16) 16 then M 8 l * M 17 l * M 17 l else 0) (M 4 2).toNat = 0 := by
        rw [z]
        have b := zsum_b (f := fun l => if ¬ M 18 l = -1 ∧ M 13 (M 18 l) = -1 then M 8 l * M 17 l * M 17 l else 0) (b := 0) (M 4 2).toNat (fun i hi => by
          show 0 ≤ (if ¬ M 18 i = -1 ∧ M 13 (M 18 i) = -1 then M 8 i * M 17 i * M 17 i else 0) ∧ (if ¬ M 18 i = -1 ∧ M 13 (M 18 i) = -1 then M 8 i * M 17 i * M 17 i else 0) ≤ 0
          rw [if_neg (fun y => ?_)]
          · omega
          · rcases vNe h i (by omega) (by omega) with w | w
            · exact y.1 w
            · omega)
        omega
      rw [e] at hg; exact hg
theorem op_all (h : Inv M) : opk 87 160 [(0, a1)] M := by
  refine c87 h (fun z => refuse2 h (cro_r h) (by omega) (fun M2 Qm b1 b2 => s160_0 (c98 ⟨fun _ => b2 M2 mfx_r b1.1 b1.2.1, fun y => absurd (if_neg z) y⟩))) (fun g => s160_0 (c98 ⟨fun y => by (rw [if_pos g] at y; exact absurd y (by decide)), fun _ => c159 h (mst_of h (fun _ _ => rfl)) g ⟨rfl, h⟩⟩))
/-! digest -/
def dfo (f : Int → Int) (h : Int) : Nat → Int
  | 0 => h
  | n + 1 => zW (zW (31 * dfo f h n) + f n)
def vPl (M : zM) (v i : Int) : Int := if i = 0 then (if M 126 v = 1 then -1 else M 5 v) else if i = 1 then M 142 v else if i = 2 then M 143 v else if i = 3 then M 144 v else M 145 v
def vLi (M : zM) (l i : Int) : Int := if i = 0 then M 6 l else if i = 1 then M 7 l else if i = 2 then M 8 l else if i = 3 then M 9 l else if i = 4 then M 132 l else if i = 5 then M 17 l else if i = 6 then M 18 l else if M 9 l < M 17 l then 1 else 0
def dpl (M : zM) (h : Int) : Nat → Int
  | 0 => h
  | n + 1 => if tb (M 4 0) n = true then dfo (vPl M n) (zW (zW (31 * dpl M h n) + n)) 5 else dpl M h n
def dli (M : zM) (h : Int) : Nat → Int
  | 0 => h
  | n + 1 => dfo (vLi M n) (dli M h n) 8
noncomputable def dig (M : zM) : Int := dfo (vAl M) (dli M (dpl M (dfo (vTd M) 2267 8) 16) (M 4 2).toNat) 8
theorem c90 {Q : Int → zM → Prop} (h : Inv M) (hQ : Q (dig M) M) : zF 90 Q [(2, 1)] M := by
  have hs := mst_of h (M1 := M) (fun _ _ => rfl)
  obtain ⟨A, hA, ⟨hcP, hn, _⟩, _⟩ := id h
  have hW := hn.1
  have hm := hW.1
  have l4 : ∀ (n k : Nat), k + n = 8 → zS 90 Q 147 [(2, 1), (1, dfo (vAl M) (dli M (dpl M (dfo (vTd M) 2267 8) 16) (M 4 2).toNat) k), (3, 0), (0, (k : Int)), (3, 0)] [] M := by
    intro n
    induction n with
    | zero =>
      intro k hk
      have : k = 8 := by omega
      subst this
      exact s90_147 ⟨fun _ => hQ, fun z => by omega⟩
    | succ n ih =>
      intro k hk
      refine s90_147 ⟨fun z => by omega, fun _ => c87 h (fun z => absurd ⟨by omega, by omega⟩ z) (fun _ => ?_)⟩
      rw [zw_id (by omega)]; exact ih (k + 1) (by omega)
  have l3 : ∀ (n l : Nat), ((l : Nat) : Int) + n = M 4 2 → zS 90 Q 97 [(2, 1), (1, dli M (dpl M (dfo (vTd M) 2267 8) 16) l), (3, 0), (0, (l : Int)), (3, 0)] [] M := by
    intro n
    induction n with
    | zero =>
      intro l hl
      refine s90_97 ⟨fun _ => ?_, fun z => by omega⟩
      rw [show l = (M 4 2).toNat by omega]; exact l4 8 0 (by omega)
    | succ n ih =>
      intro l hl
      have inn : ∀ (m k : Nat), k + m = 8 → zS 90 Q 111 [(2, 1), (1, dfo (vLi M l) (dli M (dpl M (dfo (vTd M) 2267 8) 16) l) k), (3, 0), (0, (l : Int)), (0, (k : Int))] [] M := by
        intro m
        induction m with
        | zero =>
          intro k hk
          have : k = 8 := by omega
          subst this
          refine s90_111 ⟨fun _ => ?_, fun z => by omega⟩
          rw [zw_id (by omega)]; exact ih (l + 1) (by omega)
        | succ m im =>
          intro k hk
          refine s90_111 ⟨fun z => by omega, fun _ => c71 h hs (fun z => absurd ⟨by omega, by omega⟩ z) (fun _ _ => ?_)⟩
          rw [zw_id (by omega)]; exact im (k + 1) (by omega)
      exact s90_97 ⟨fun z => by omega, fun _ => inn 8 0 (by omega)⟩
  have l2 : ∀ (n v : Nat), v + n = 16 → zS 90 Q 33 [(2, 1), (1, dpl M (dfo (vTd M) 2267 8) v), (3, 0), (0, (v : Int)), (3, 0)] [] M := by
    intro n
    induction n with
    | zero =>
      intro v hv
      have : v = 16 := by omega
      subst this
      exact s90_33 ⟨fun _ => l3 (M 4 2).toNat 0 (by omega), fun z => by omega⟩
    | succ n ih =>
      intro v hv
      have nx := ih (v + 1) (by omega)
      have e : dpl M (dfo (vTd M) 2267 8) (v + 1) = if tb (M 4 0) v = true then dfo (vPl M v) (zW (zW (31 * dpl M (dfo (vTd M) 2267 8) v) + v)) 5 else dpl M (dfo (vTd M) 2267 8) v := rfl
      rw [e] at nx
      refine s90_33 ⟨fun z => by omega, fun _ => c17 rfl (fun z => ⟨fun _ => ?_, fun y => absurd rfl y⟩) (fun z => ⟨fun y => absurd y (by decide), fun _ => ?_⟩)⟩
      · rw [if_neg (fun y => z ⟨by omega, by omega, y⟩)] at nx
        rw [zw_id (by omega)]; exact nx
      · rw [if_pos z.2.2] at nx
        have inn : ∀ (m k : Nat), k + m = 5 → zS 90 Q 62 [(2, 1), (1, dfo (vPl M v) (zW (zW (31 * dpl M (dfo (vTd M) 2267 8) v) + v)) k), (3, 0), (0, (v : Int)), (0, (k : Int))] [] M := by
          intro m
          induction m with
          | zero =>
            intro k hk
            have : k = 5 := by omega
            subst this
            refine s90_62 ⟨fun _ => ?_, fun z => by omega⟩
            rw [zw_id (by omega)]; exact nx
          | succ m im =>
            intro k hk
            refine s90_62 ⟨fun z => by omega, fun _ => c72 h hs (fun y => absurd ⟨z, by omega, by omega⟩ y) (fun _ _ => ?_)⟩
            rw [zw_id (by omega)]; exact im (k + 1) (by omega)
        exact inn 5 0 (by omega)
  have l1 : ∀ (n k : Nat), k + n = 8 → zS 90 Q 6 [(2, 1), (1, dfo (vTd M) 2267 k), (3, 0), (0, (k : Int)), (3, 0)] [] M := by
    intro n
    induction n with
    | zero =>
      intro k hk
      have : k = 8 := by omega
      subst this
      exact s90_6 ⟨fun _ => l2 16 0 (by omega), fun z => by omega⟩
    | succ n ih =>
      intro k hk
      refine s90_6 ⟨fun z => by omega, fun _ => c89 h (fun z => absurd ⟨by omega, by omega⟩ z) (fun _ => ?_)⟩
      rw [zw_id (by omega)]; exact ih (k + 1) (by omega)
  exact s90_0 (l1 8 0 (by omega))
theorem c163 {Q : Int → zM → Prop} (h : Inv M) (hQ : Q (dig M) M) : zF 163 Q [(2, 123)] M := by
  have hs := mst_of h (M1 := M) (fun _ _ => rfl)
  obtain ⟨A, hA, ⟨hcP, hn, _⟩, _⟩ := id h
  have hW := hn.1
  have hm := hW.1
  have h3 : M 123 3 = M 4 2 := by rw [hs.1.1, pnet_42]
  have l4 : ∀ (n k : Nat), k + n = 8 → zS 163 Q 142 [(2, 123), (1, dfo (vAl M) (dli M (dpl M (dfo (vTd M) 2267 8) 16) (M 4 2).toNat) k), (3, 0), (0, (k : Int)), (3, 0)] [] M := by
    intro n
    induction n with
    | zero =>
      intro k hk
      have : k = 8 := by omega
      subst this
      exact s163_142 ⟨fun _ => hQ, fun z => by omega⟩
    | succ n ih =>
      intro k hk
      refine s163_142 ⟨fun z => by omega, fun _ => c159 h hs (by omega) ?_⟩
      rw [zw_id (by omega)]; exact ih (k + 1) (by omega)
  have l3 : ∀ (n l : Nat), ((l : Nat) : Int) + n = M 4 2 → zS 163 Q 95 [(2, 123), (1, dli M (dpl M (dfo (vTd M) 2267 8) 16) l), (3, 0), (0, (l : Int)), (3, 0)] [] M := by
    intro n
    induction n with
    | zero =>
      intro l hl
      refine s163_95 ⟨fun _ => ?_, fun z => by omega⟩
      rw [show l = (M 4 2).toNat by omega]; exact l4 8 0 (by omega)
    | succ n ih =>
      intro l hl
      have inn : ∀ (m k : Nat), k + m = 8 → zS 163 Q 106 [(2, 123), (1, dfo (vLi M l) (dli M (dpl M (dfo (vTd M) 2267 8) 16) l) k), (3, 0), (0, (l : Int)), (0, (k : Int))] [] M := by
        intro m
        induction m with
        | zero =>
          intro k hk
          have : k = 8 := by omega
          subst this
          refine s163_106 ⟨fun _ => ?_, fun z => by omega⟩
          rw [zw_id (by omega)]; exact ih (l + 1) (by omega)
        | succ m im =>
          intro k hk
          refine s163_106 ⟨fun z => by omega, fun _ => c126 h hs (fun z => absurd ⟨by omega, by omega⟩ z) (fun _ _ => ?_)⟩
          rw [zw_id (by omega)]; exact im (k + 1) (by omega)
      exact s163_95 ⟨fun z => by omega, fun _ => inn 8 0 (by omega)⟩
  have l2 : ∀ (n v : Nat), v + n = 16 → zS 163 Q 33 [(2, 123), (1, dpl M (dfo (vTd M) 2267 8) v), (3, 0), (0, (v : Int)), (3, 0)] [] M := by
    intro n
    induction n with
    | zero =>
      intro v hv
      have : v = 16 := by omega
      subst this
      exact s163_33 ⟨fun _ => l3 (M 4 2).toNat 0 (by omega), fun z => by omega⟩
    | succ n ih =>
      intro v hv
      have nx := ih (v + 1) (by omega)
      have e : dpl M (dfo (vTd M) 2267 8) (v + 1) = if tb (M 4 0) v = true then dfo (vPl M v) (zW (zW (31 * dpl M (dfo (vTd M) 2267 8) v) + v)) 5 else dpl M (dfo (vTd M) 2267 8) v := rfl
      have kv := (hs.1.2.1 v (by omega) (by omega)).2.1
      rw [pnet_40] at kv
      rw [e] at nx
      refine s163_33 ⟨fun z => by omega, fun _ => ⟨by omega, fun z => ?_, fun z => ?_⟩⟩
      · rw [if_neg (fun y => kv.mp ⟨by omega, y⟩ z)] at nx
        rw [zw_id (by omega)]; exact nx
      · have z := kv.mpr z
        rw [if_pos z.2] at nx
        have inn : ∀ (m k : Nat), k + m = 5 → zS 163 Q 60 [(2, 123), (1, dfo (vPl M v) (zW (zW (31 * dpl M (dfo (vTd M) 2267 8) v) + v)) k), (3, 0), (0, (v : Int)), (0, (k : Int))] [] M := by
          intro m
          induction m with
          | zero =>
            intro k hk
            have : k = 5 := by omega
            subst this
            refine s163_60 ⟨fun _ => ?_, fun z => by omega⟩
            rw [zw_id (by omega)]; exact nx
          | succ m im =>
            intro k hk
            refine s163_60 ⟨fun z => by omega, fun _ => c127 h hs (fun y => absurd ⟨⟨by omega, z⟩, by omega, by omega⟩ y) (fun _ _ => ?_)⟩
            rw [zw_id (by omega)]; exact im (k + 1) (by omega)
        exact inn 5 0 (by omega)
  have l1 : ∀ (n k : Nat), k + n = 8 → zS 163 Q 6 [(2, 123), (1, dfo (vTd M) 2267 k), (3, 0), (0, (k : Int)), (3, 0)] [] M := by
    intro n
    induction n with
    | zero =>
      intro k hk
      have : k = 8 := by omega
      subst this
      exact s163_6 ⟨fun _ => l2 16 0 (by omega), fun z => by omega⟩
    | succ n ih =>
      intro k hk
      refine s163_6 ⟨fun z => by omega, fun _ => c161 h hs (by omega) ?_⟩
      rw [zw_id (by omega)]; exact ih (k + 1) (by omega)
  exact s163_0 (l1 8 0 (by omega))
theorem op_digest (h : Inv M) : opk 90 163 [] M := c90 h (c163 h ⟨rfl, h⟩)
end OP10
