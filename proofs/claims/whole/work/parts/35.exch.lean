/-! an exchange: the ring's flows shift -/
/-- the flow, from the first place to the second one -/
def kG (fi se fl ne : Int → Int) (l : Int) : Int := if ne l = fi l then fl l else if ne l = se l then - fl l else 0
section KX
variable {fd : Int → Prop} {lo fi se : Int → Int} {S S' L L' : Int → Prop} {rt by' de rt2 by2 de2 be fl ne be2 fl2 ne2 : Int → Int}
/-- each line of the tree: the place nearer to the feeder, and the one that hangs by it -/
theorem kF_l (h : kT fd fi se S L rt by' de) (hf : kF fd lo fi se L by' be fl ne) {l : Int} (h0 : 0 ≤ l) (h1 : l < 24) (q : ¬ ne l = -1) : ∃ w, L w ∧ ¬ fd w ∧ by' w = l ∧ zbt fi se l (ne l) w ∧ L (ne l) ∧ fl l = be w ∧ ne l ≠ w ∧ S l := by
  obtain ⟨w, w1, w2, w3⟩ := (hf.2.2.1 l h0 h1).2 q
  obtain ⟨s1, u, u1, u2, u3, u4⟩ := h.2.2.1 w w1 w2
  have a := kF_par h hf w1 w2 u1
  have b := (hf.2.1 w w1 w2)
  rw [w3] at a b s1
  refine ⟨w, w1, w2, w3, b.2.2, by rw [a.1]; exact u2, b.2.1, ?_, s1⟩
  rw [a.1]
  intro z
  rw [z] at u4; omega
theorem kG_abs (h : kT fd fi se S L rt by' de) (hf : kF fd lo fi se L by' be fl ne) {l : Int} (h0 : 0 ≤ l) (h1 : l < 24) : kG fi se fl ne l = fl l ∨ kG fi se fl ne l = - fl l := by
  unfold kG
  by_cases q : ne l = -1
  · rw [(hf.2.2.1 l h0 h1).1 q]
    split
    · exact Or.inl rfl
    · split
      · exact Or.inl rfl
      · exact Or.inl rfl
  · obtain ⟨w, w1, w2, w3, w4, w5⟩ := kF_l h hf h0 h1 q
    rcases w4 with ⟨a, b⟩ | ⟨a, b⟩
    · rw [if_pos a.symm]; exact Or.inl rfl
    · split
      · exact Or.inl rfl
      · rw [if_pos b.symm]; exact Or.inr rfl
theorem kG_off (h : kT fd fi se S L rt by' de) (hf : kF fd lo fi se L by' be fl ne) {l : Int} (h0 : 0 ≤ l) (h1 : l < 24) (q : ¬ S l) : kG fi se fl ne l = 0 ∧ fl l = 0 := by
  have hn : ne l = -1 := Classical.byContradiction fun z => by
    obtain ⟨w, w1, w2, w3, w4, w5, w6, w7, w8⟩ := kF_l h hf h0 h1 z
    exact q w8
  have := (hf.2.2.1 l h0 h1).1 hn
  have g := kG_abs h hf h0 h1
  omega
theorem kirch (h : kT fd fi se S L rt by' de) (hf : kF fd lo fi se L by' be fl ne) {v : Int} (hv : 0 ≤ v ∧ v < 16) (hd : ¬ fd v) : kin fi se (kG fi se fl ne) v = (@ite _ (L v) (Classical.propDecidable _) (lo v) 0) := by
  have zero : ∀ l, 0 ≤ l → l < 24 → ne l = -1 → kG fi se fl ne l = 0 := fun l h0 h1 q => by
    have := (hf.2.2.1 l h0 h1).1 q
    have g := kG_abs h hf h0 h1
    omega
  have term : ∀ l, 0 ≤ l → l < 24 → ∀ w, zbt fi se l (ne l) w → ne l ≠ w → (if se l = v then kG fi se fl ne l else 0) - (if fi l = v then kG fi se fl ne l else 0) = (if w = v then fl l else 0) - (if ne l = v then fl l else 0) := by
    intro l h0 h1 w hb hne
    unfold kG
    rcases hb with ⟨a, b⟩ | ⟨a, b⟩
    · rw [if_pos a.symm, a, b]
    · have hnn : ¬ ne l = fi l := fun z => hne (z.trans a)
      rw [if_neg hnn, if_pos b.symm, a, b]
      by_cases p1 : ne l = v <;> by_cases p2 : w = v <;> simp only [p1, p2, if_true, if_false] <;> omega
  by_cases q : L v
  · rw [if_pos q]
    have hb := hf.2.1 v q hd
    unfold kin
    rw [zsum_congr (g := fun l => (if by' v = l then be v else 0) - (if ne l = v then fl l else 0)) 24 (fun i hi => ?_), zsum_sub, zsum_pick (h := fun _ => be v) 24 hb.1.1 hb.1.2, hf.1 v q]
    · omega
    · by_cases z : ne i = -1
      · rw [zero i (by omega) (by omega) z]
        have hby : ¬ by' v = i := fun e => by
          obtain ⟨s1, u, u1, u2, u3, u4⟩ := h.2.2.1 v q hd
          have a := (kF_par h hf q hd u1).1
          rw [e, z] at a
          have := (h.2.1 u u2).1
          omega
        rw [if_neg hby, if_neg (by omega : ¬ ne i = v)]
        split <;> split <;> rfl
      · obtain ⟨w, w1, w2, w3, w4, w5, w6, w7, w8⟩ := kF_l h hf (by omega) (by omega) z
        rw [term i (by omega) (by omega) w w4 w7]
        by_cases e : w = v
        · subst e
          rw [if_pos rfl, if_pos w3, w6]
        · have e3 : ¬ by' v = i := fun e2 => e (by
            have b2 := hb.2.2
            rw [e2] at b2
            rcases zbt_ends w4 b2 with ⟨p1, p2⟩ | ⟨p1, p2⟩
            · exact p2.symm
            · exact absurd p1 w7)
          rw [if_neg e, if_neg e3]
  · rw [if_neg q]
    unfold kin
    refine zsum_0 24 (fun i hi => ?_)
    by_cases z : ne i = -1
    · rw [zero i (by omega) (by omega) z]
      split <;> split <;> rfl
    · obtain ⟨w, w1, w2, w3, w4, w5, w6, w7, w8⟩ := kF_l h hf (by omega) (by omega) z
      rw [term i (by omega) (by omega) w w4 w7, if_neg (fun e => q (by rw [← e]; exact w1)), if_neg (fun e => q (by rw [← e]; exact w5))]
      rfl
/-- a walk as a flow of 1 -/
def kX (fi : Int → Int) : List (Int × Int) → Int → Int
  | [], _ => 0
  | e :: P, j => (if e.1 = j then (if fi e.1 = e.2 then 1 else -1) else 0) + kX fi P j
theorem kX_in (hS : ∀ l, S l → (0 ≤ l ∧ l < 24) ∧ ¬ fi l = se l) {v : Int} (hv : ¬ fd v) : ∀ {P : List (Int × Int)} {a b : Int}, kP fd fi se S P a b → kin fi se (kX fi P) v = (if b = v then 1 else 0) - (if a = v then 1 else 0)
  | [], a, b, g => by
    have e : (a = v ↔ b = v) := by
      rcases g with g | g
      · rw [g]
      · constructor
        · intro z; rw [z] at g; exact absurd g.1 hv
        · intro z; rw [z] at g; exact absurd g.2 hv
    have : kin fi se (kX fi []) v = 0 := zsum_0 24 (fun i _ => by unfold kX; split <;> split <;> rfl)
    rw [this]
    simp only [e]; omega
  | (l, x) :: P, a, b, ⟨g1, g2, y, g3, g4⟩ => by
    have ih := kX_in hS hv g4
    have hl := hS l g1
    have e : (a = v ↔ x = v) := by
      rcases g2 with g | g
      · rw [g]
      · constructor
        · intro z; rw [z] at g; exact absurd g.1 hv
        · intro z
          have g' := g.2
          rw [show ((l, x) : Int × Int).2 = x from rfl, z] at g'; exact absurd g' hv
    have : kX fi ((l, x) :: P) = fun j => (if l = j then (if fi l = x then 1 else -1) else 0) + kX fi P j := rfl
    rw [this, kin_add, ih, kin_one v hl.1.1 hl.1.2]
    simp only [e]
    have g3' : zbt fi se l x y := g3
    rcases g3' with ⟨p, r⟩ | ⟨p, r⟩
    · rw [if_pos p, p, r]; omega
    · have : ¬ fi l = x := fun z => hl.2 (by rw [z, r])
      rw [if_neg this, p, r]
      by_cases p1 : y = v <;> by_cases p2 : x = v <;> simp only [p1, p2, if_true, if_false] <;> omega
theorem kX_off : ∀ {P : List (Int × Int)} {l : Int}, l ∉ kls P → kX fi P l = 0
  | [], l, _ => rfl
  | e :: P, l, h => by
    simp only [kls, List.map_cons, List.mem_cons, not_or] at h
    unfold kX
    rw [if_neg (fun z => h.1 z.symm), kX_off h.2]
    rfl
theorem kX_on : ∀ {P : List (Int × Int)} {e : Int × Int}, (kls P).Nodup → e ∈ P → kX fi P e.1 = (if fi e.1 = e.2 then 1 else -1)
  | [], e, _, h => by cases h
  | e' :: P, e, hn, h => by
    simp only [kls, List.map_cons, List.nodup_cons] at hn
    unfold kX
    rcases List.mem_cons.mp h with q | q
    · subst q
      rw [if_pos rfl, kX_off hn.1]
      omega
    · have : ¬ e'.1 = e.1 := fun z => hn.1 (by rw [z]; exact List.mem_map.mpr ⟨e, q, rfl⟩)
      rw [if_neg this, kX_on hn.2 q]
      omega
/-- what a line of the walk carries, against its way -/
def ksg (fi G : Int → Int) (e : Int × Int) : Int := if fi e.1 = e.2 then - G e.1 else G e.1
variable {t : Int} {P : List (Int × Int)} {e0 : Int × Int}
theorem kx_rad (hr : kRad fd fi se S) (hP : kP fd fi se S P (fi t) (se t)) (hn : (kls P).Nodup) (h0 : e0 ∈ P) (hS' : ∀ l, S' l ↔ (S l ∨ l = t) ∧ l ≠ e0.1) : kRad fd fi se S' := by
  have hs0 := (kP_S hP e0 h0).1
  obtain ⟨d, d1, d2, d3⟩ := hr e0.1 hs0
  have hd := kP_odd d1 d2 d3 hn (List.mem_map.mpr ⟨e0, h0, rfl⟩) hP
  intro l hl
  obtain ⟨h1, h2⟩ := (hS' l).mp hl
  by_cases q : l = t
  · subst q
    refine ⟨d, d1, hd, fun l' hl' z => ?_⟩
    obtain ⟨g1, g2⟩ := (hS' l').mp hl'
    rcases g1 with g1 | g1
    · exact d3 l' g1 g2
    · exact absurd g1 z
  · have hsl : S l := h1.resolve_right q
    obtain ⟨c, c1, c2, c3⟩ := hr l hsl
    by_cases z : c (fi t) = c (se t)
    · refine ⟨c, c1, c2, fun l' hl' w => ?_⟩
      obtain ⟨g1, g2⟩ := (hS' l').mp hl'
      rcases g1 with g1 | g1
      · exact c3 l' g1 w
      · rw [g1]; exact z
    · refine ⟨fun x => c x ^^ d x, kfc_x c1 d1, bxor_n2 c2 (d3 l hsl h2), fun l' hl' w => ?_⟩
      obtain ⟨g1, g2⟩ := (hS' l').mp hl'
      rcases g1 with g1 | g1
      · exact bxor_eq (c3 l' g1 w) (d3 l' g1 g2)
      · subst g1; exact bxor_n1 z hd
theorem kx_col (ht : ¬ S t) (hP : kP fd fi se S P (fi t) (se t)) (hn : (kls P).Nodup) (h0 : e0 ∈ P) (hS' : ∀ l, S' l ↔ (S l ∨ l = t) ∧ l ≠ e0.1) {c : Int → Bool} (hc : kfc fd c) : (∀ l, S l → c (fi l) = c (se l)) ↔ (∀ l, S' l → c (fi l) = c (se l)) := by
  have hs0 := (kP_S hP e0 h0).1
  constructor
  · intro h l hl
    obtain ⟨g1, g2⟩ := (hS' l).mp hl
    rcases g1 with g1 | g1
    · exact h l g1
    · rw [g1]
      refine kP_c hc (fun j hj => h j ?_) hP
      obtain ⟨e, e1, e2⟩ := List.mem_map.mp hj
      rw [← e2]; exact (kP_S hP e e1).1
  · intro h l hl
    by_cases q : l = e0.1
    · refine Classical.byContradiction fun z => ?_
      rw [q] at z
      exact kP_odd hc z (fun j hj w => h j ((hS' j).mpr ⟨Or.inl hj, w⟩)) hn (List.mem_map.mpr ⟨e0, h0, rfl⟩) hP (h t ((hS' t).mpr ⟨Or.inr rfl, fun w => ht (by rw [w]; exact hs0)⟩))
    · exact h l ((hS' l).mpr ⟨Or.inl hl, q⟩)
theorem kx_lit (ht : ¬ S t) (hP : kP fd fi se S P (fi t) (se t)) (hn : (kls P).Nodup) (h0 : e0 ∈ P) (hS' : ∀ l, S' l ↔ (S l ∨ l = t) ∧ l ≠ e0.1) (h : kT fd fi se S L rt by' de) (g : kT fd fi se S' L' rt2 by2 de2) (v : Int) : L v ↔ L' v := by
  rw [kT_lit h v, kT_lit g v]
  constructor
  · rintro ⟨f, h1, h2⟩
    exact ⟨f, h1, fun c a b => h2 c a ((kx_col ht hP hn h0 hS' a).mpr b)⟩
  · rintro ⟨f, h1, h2⟩
    exact ⟨f, h1, fun c a b => h2 c a ((kx_col ht hP hn h0 hS' a).mp b)⟩
/-- the flows behind an exchange -/
theorem kx_flow (hr : kRad fd fi se S) (hS : ∀ l, (S l ∨ l = t) → (0 ≤ l ∧ l < 24) ∧ (0 ≤ fi l ∧ fi l < 16) ∧ (0 ≤ se l ∧ se l < 16) ∧ ¬ fi l = se l) (ht : ¬ S t) (hP : kP fd fi se S P (fi t) (se t)) (hn : (kls P).Nodup) (h0 : e0 ∈ P) (hS' : ∀ l, S' l ↔ (S l ∨ l = t) ∧ l ≠ e0.1)
    (h : kT fd fi se S L rt by' de) (g : kT fd fi se S' L' rt2 by2 de2) (hf : kF fd lo fi se L by' be fl ne) (gf : kF fd lo fi se L' by2 be2 fl2 ne2) :
    (∀ l, 0 ≤ l → l < 24 → kG fi se fl2 ne2 l = kG fi se fl ne l + ksg fi (kG fi se fl ne) e0 * kX fi P l - (if t = l then ksg fi (kG fi se fl ne) e0 else 0)) := by
  have hs0 := (kP_S hP e0 h0).1
  generalize hs : ksg fi (kG fi se fl ne) e0 = s
  have hr' := kx_rad hr hP hn h0 hS'
  have hin : ∀ l, l ∈ kls P → S l := fun l hl => by
    obtain ⟨e, e1, e2⟩ := List.mem_map.mp hl
    rw [← e2]; exact (kP_S hP e e1).1
  have key := kir_one (G := fun l => kG fi se fl2 ne2 l - (kG fi se fl ne l + (s * kX fi P l - (if t = l then s else 0)))) hr' (fun l hl => by have := hS l ((hS' l).mp hl).1; exact ⟨this.2.1, this.2.2.1⟩) (fun l a b q => ?_) (fun v a b q => ?_)
  · intro l a b
    have := key l a b
    omega
  · rw [(kG_off g gf a b q).1]
    by_cases z : l = e0.1
    · have htl : ¬ t = l := fun w => ht (by rw [w, z]; exact hs0)
      rw [z] at htl
      rw [z, kX_on hn h0, if_neg htl, ← hs]
      unfold ksg
      by_cases p : fi e0.1 = e0.2
      · rw [if_pos p, if_pos p]; omega
      · rw [if_neg p, if_neg p]; omega
    · have h1 : ¬ (S l ∨ l = t) := fun w => q ((hS' l).mpr ⟨w, z⟩)
      rw [(kG_off h hf a b (fun w => h1 (Or.inl w))).1, kX_off (fun w => h1 (Or.inl (hin l w))), if_neg (fun w => h1 (Or.inr w.symm))]
      omega
  · have hl := hS t (Or.inr rfl)
    have hX := kX_in (S := S) (fi := fi) (se := se) (fun l x => by have := hS l (Or.inl x); exact ⟨this.1, this.2.2.2⟩) q hP
    rw [kin_sub, kirch g gf ⟨a, b⟩ q, kin_add, kirch h hf ⟨a, b⟩ q, kin_sub, kin_mul, hX, kin_one v hl.1.1 hl.1.2]
    have hL := kx_lit ht hP hn h0 hS' h g v
    have e1 : s * ((if se t = v then 1 else 0) - (if fi t = v then 1 else 0)) = (if se t = v then s else 0) - (if fi t = v then s else 0) := by
      split <;> split <;> omega
    rw [e1]
    by_cases z : L v
    · rw [if_pos z, if_pos (hL.mp z)]; omega
    · rw [if_neg z, if_neg (fun w => z (hL.mpr w))]; omega
/-- ... on the ring, on the tie, elsewhere -/
theorem kx_fl (hr : kRad fd fi se S) (hS : ∀ l, (S l ∨ l = t) → (0 ≤ l ∧ l < 24) ∧ (0 ≤ fi l ∧ fi l < 16) ∧ (0 ≤ se l ∧ se l < 16) ∧ ¬ fi l = se l) (ht : ¬ S t) (hP : kP fd fi se S P (fi t) (se t)) (hn : (kls P).Nodup) (h0 : e0 ∈ P) (hS' : ∀ l, S' l ↔ (S l ∨ l = t) ∧ l ≠ e0.1)
    (h : kT fd fi se S L rt by' de) (g : kT fd fi se S' L' rt2 by2 de2) (hf : kF fd lo fi se L by' be fl ne) (gf : kF fd lo fi se L' by2 be2 fl2 ne2) :
    (∀ e, e ∈ P → (fl2 e.1 = ksg fi (kG fi se fl ne) e - ksg fi (kG fi se fl ne) e0 ∨ fl2 e.1 = -(ksg fi (kG fi se fl ne) e - ksg fi (kG fi se fl ne) e0)) ∧ (fl e.1 = ksg fi (kG fi se fl ne) e ∨ fl e.1 = - ksg fi (kG fi se fl ne) e))
    ∧ (fl2 t = ksg fi (kG fi se fl ne) e0 ∨ fl2 t = - ksg fi (kG fi se fl ne) e0) ∧ fl t = 0
    ∧ (∀ l, 0 ≤ l → l < 24 → l ∉ kls P → l ≠ t → fl2 l = fl l) := by
  have key := kx_flow hr hS ht hP hn h0 hS' h g hf gf
  have hin : ∀ l, l ∈ kls P → S l := fun l hl => by
    obtain ⟨e, e1, e2⟩ := List.mem_map.mp hl
    rw [← e2]; exact (kP_S hP e e1).1
  have hl := hS t (Or.inr rfl)
  have htP : t ∉ kls P := fun w => ht (hin t w)
  refine ⟨fun e he => ?_, ?_, (kG_off h hf hl.1.1 hl.1.2 ht).2, fun l a b q1 q2 => ?_⟩
  · have hse := (kP_S hP e he).1
    have hr := (hS e.1 (Or.inl hse)).1
    have k := key e.1 hr.1 hr.2
    have x1 := kG_abs g gf hr.1 hr.2
    have x2 := kG_abs h hf hr.1 hr.2
    have hte : ¬ t = e.1 := fun w => ht (by rw [w]; exact hse)
    rw [kX_on hn he, if_neg hte] at k
    generalize ksg fi (kG fi se fl ne) e0 = s at k ⊢
    unfold ksg
    by_cases p : fi e.1 = e.2
    · rw [if_pos p] at k ⊢; omega
    · rw [if_neg p] at k ⊢; omega
  · have k := key t hl.1.1 hl.1.2
    rw [kX_off htP, (kG_off h hf hl.1.1 hl.1.2 ht).1, if_pos rfl] at k
    have x1 := kG_abs g gf hl.1.1 hl.1.2
    omega
  · have k := key l a b
    rw [kX_off q1, if_neg (fun w => q2 w.symm)] at k
    have x1 := kG_abs g gf a b
    have x2 := kG_abs h hf a b
    have y1 := (gf.2.2.2.2 l a b).1
    have y2 := (hf.2.2.2.2 l a b).1
    omega
end KX
