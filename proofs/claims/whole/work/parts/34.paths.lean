/-! walks over lines; what an exchange does to flows -/
theorem ksm_r {fd : Int → Prop} (a : Int) : ksm fd a a := Or.inl rfl
theorem ksm_s {fd : Int → Prop} {a b : Int} (h : ksm fd a b) : ksm fd b a := by
  rcases h with h | h
  · exact Or.inl h.symm
  · exact Or.inr ⟨h.2, h.1⟩
theorem ksm_t {fd : Int → Prop} {a b c : Int} (h : ksm fd a b) (g : ksm fd b c) : ksm fd a c := by
  rcases h with h | h
  · subst h; exact g
  · rcases g with g | g
    · subst g; exact Or.inr h
    · exact Or.inr ⟨h.1, g.2⟩
theorem ksm_c {fd : Int → Prop} {c : Int → Bool} (hc : kfc fd c) {a b : Int} (h : ksm fd a b) : c a = c b := by
  rcases h with h | h
  · rw [h]
  · exact hc a b h.1 h.2
/-- a walk: lines, each with the place where it is entered; all feeders are one place -/
def kP (fd : Int → Prop) (fi se : Int → Int) (S : Int → Prop) : List (Int × Int) → Int → Int → Prop
  | [], a, b => ksm fd a b
  | e :: P, a, b => S e.1 ∧ ksm fd a e.2 ∧ ∃ y, zbt fi se e.1 e.2 y ∧ kP fd fi se S P y b
def kls (P : List (Int × Int)) : List Int := P.map Prod.fst
section KP
variable {fd : Int → Prop} {fi se : Int → Int} {S S' : Int → Prop}
theorem kP_sm : ∀ {P : List (Int × Int)} {a a' b : Int}, ksm fd a a' → kP fd fi se S P a' b → kP fd fi se S P a b
  | [], _, _, _, h, g => ksm_t h g
  | _ :: _, _, _, _, h, ⟨g1, g2, g3⟩ => ⟨g1, ksm_t h g2, g3⟩
theorem kP_se : ∀ {P : List (Int × Int)} {a b b' : Int}, ksm fd b b' → kP fd fi se S P a b → kP fd fi se S P a b'
  | [], _, _, _, h, g => ksm_t g h
  | _ :: _, _, _, _, h, ⟨g1, g2, y, g3, g4⟩ => ⟨g1, g2, y, g3, kP_se h g4⟩
theorem kP_mono (hs : ∀ l, S l → S' l) : ∀ {P : List (Int × Int)} {a b : Int}, kP fd fi se S P a b → kP fd fi se S' P a b
  | [], _, _, g => g
  | _ :: _, _, _, ⟨g1, g2, y, g3, g4⟩ => ⟨hs _ g1, g2, y, g3, kP_mono hs g4⟩
theorem kP_app : ∀ {P R : List (Int × Int)} {a b : Int}, kP fd fi se S (P ++ R) a b ↔ ∃ z, kP fd fi se S P a z ∧ kP fd fi se S R z b
  | [], R, a, b => ⟨fun h => ⟨a, ksm_r a, h⟩, fun ⟨z, h1, h2⟩ => kP_sm h1 h2⟩
  | e :: P, R, a, b => by
    constructor
    · rintro ⟨g1, g2, y, g3, g4⟩
      obtain ⟨z, h1, h2⟩ := kP_app.mp g4
      exact ⟨z, ⟨g1, g2, y, g3, h1⟩, h2⟩
    · rintro ⟨z, ⟨g1, g2, y, g3, h1⟩, h2⟩
      exact ⟨g1, g2, y, g3, kP_app.mpr ⟨z, h1, h2⟩⟩
theorem kP_S : ∀ {P : List (Int × Int)} {a b : Int}, kP fd fi se S P a b → ∀ e, e ∈ P → S e.1 ∧ ∃ y, zbt fi se e.1 e.2 y
  | [], _, _, _, e, he => by cases he
  | e' :: P, _, _, ⟨g1, g2, y, g3, g4⟩, e, he => by
    rcases List.mem_cons.mp he with q | q
    · subst q; exact ⟨g1, y, g3⟩
    · exact kP_S g4 e q
theorem kP_c {c : Int → Bool} (hc : kfc fd c) : ∀ {P : List (Int × Int)} {a b : Int}, (∀ l, l ∈ kls P → c (fi l) = c (se l)) → kP fd fi se S P a b → c a = c b
  | [], a, b, _, g => ksm_c hc g
  | e :: P, a, b, h, ⟨g1, g2, y, g3, g4⟩ => by
    rw [ksm_c hc g2, zbt_c g3 (h e.1 (by simp [kls]))]
    exact kP_c hc (fun l hl => h l (by simp only [kls, List.map_cons] at hl ⊢; exact List.mem_cons_of_mem _ hl)) g4
/-- a walk over a line once changes that line's colour -/
theorem kP_odd {c : Int → Bool} (hc : kfc fd c) {l0 : Int} (h1 : ¬ c (fi l0) = c (se l0)) (h2 : ∀ l, S l → l ≠ l0 → c (fi l) = c (se l)) : ∀ {P : List (Int × Int)} {a b : Int}, (kls P).Nodup → l0 ∈ kls P → kP fd fi se S P a b → ¬ c a = c b
  | [], a, b, _, hm, _ => by cases hm
  | e :: P, a, b, hn, hm, ⟨g1, g2, y, g3, g4⟩ => by
    rw [ksm_c hc g2]
    simp only [kls, List.map_cons, List.nodup_cons] at hn
    by_cases q : e.1 = l0
    · have hr : c y = c b := kP_c hc (fun l hl => h2 l ?_ (fun z => ?_)) g4
      · rw [← hr]
        exact zbt_nc g3 (by rw [q]; exact h1)
      · obtain ⟨e', e1, e2⟩ := List.mem_map.mp hl
        rw [← e2]; exact (kP_S g4 e' e1).1
      · subst z; rw [q] at hn; exact hn.1 hl
    · rw [zbt_c g3 (h2 _ g1 q)]
      refine kP_odd hc h1 h2 hn.2 ?_ g4
      simp only [kls, List.map_cons] at hm
      rcases List.mem_cons.mp hm with z | z
      · exact absurd z.symm q
      · exact z
theorem kP_two (hr : kRad fd fi se S) {l : Int} (hl : S l) : ¬ ksm fd (fi l) (se l) := fun h => by
  obtain ⟨c, c1, c2, _⟩ := hr l hl
  exact c2 (ksm_c c1 h)
theorem kP_twz (hr : kRad fd fi se S) {l x y : Int} (hl : S l) (hb : zbt fi se l x y) : ¬ ksm fd x y := fun h => by
  rcases hb with ⟨a, b⟩ | ⟨a, b⟩
  · exact kP_two hr hl (by rw [a, b]; exact h)
  · exact kP_two hr hl (by rw [a, b]; exact ksm_s h)
/-- in a radial net no walk comes back -/
theorem kP_no (hr : kRad fd fi se S) {P : List (Int × Int)} {a b : Int} (hn : (kls P).Nodup) (h : kP fd fi se S P a b) (hs : ksm fd a b) : P = [] := by
  cases P with
  | nil => rfl
  | cons e P =>
    obtain ⟨c, c1, c2, c3⟩ := hr e.1 h.1
    exact absurd (ksm_c c1 hs) (kP_odd c1 c2 c3 hn (by simp [kls]) h)
/-- in a radial net there is one walk at most -/
theorem kP_one (hr : kRad fd fi se S) : ∀ {P R : List (Int × Int)} {a b : Int}, (kls P).Nodup → (kls R).Nodup → kP fd fi se S P a b → kP fd fi se S R a b → kls P = kls R
  | [], R, a, b, _, hn, g, h => by rw [kP_no hr hn h g]
  | e :: P, [], a, b, hn, _, g, h => by rw [kP_no hr hn g h]
  | (l, x) :: P, (l', x') :: R, a, b, hn, hn', g, h => by
    obtain ⟨g1, g2, y, g3, g4⟩ := id g
    obtain ⟨h1, h2, y', h3, h4⟩ := id h
    have hn1 := hn
    have hn1' := hn'
    simp only [kls, List.map_cons, List.nodup_cons] at hn1 hn1'
    by_cases q : l = l'
    · subst q
      have hy : y' = y := by
        rcases zbt_ends g3 h3 with ⟨p1, p2⟩ | ⟨p1, p2⟩
        · exact p2
        · exact absurd (ksm_t (ksm_s g2) (p1 ▸ h2)) (kP_twz hr g1 g3)
      subst hy
      have := kP_one hr hn1.2 hn1'.2 g4 h4
      simp only [kls, List.map_cons] at this ⊢
      rw [this]
    · exfalso
      obtain ⟨c, c1, c2, c3⟩ := hr l g1
      have hab := kP_odd c1 c2 c3 hn (by simp [kls]) g
      have hin : l ∈ kls R := Classical.byContradiction fun z => hab (kP_c c1 (fun j hj => by
        refine c3 j ?_ (fun w => ?_)
        · obtain ⟨e', e1, e2⟩ := List.mem_map.mp hj
          rw [← e2]; exact (kP_S h e' e1).1
        · subst w
          simp only [kls, List.map_cons] at hj
          rcases List.mem_cons.mp hj with w | w
          · exact q w
          · exact z w) h)
      obtain ⟨e', e1, e2⟩ := List.mem_map.mp hin
      obtain ⟨A, B, hAB⟩ := List.append_of_mem e1
      obtain ⟨d, d1, d2, d3⟩ := hr l' h1
      subst hAB
      rw [show (l', x') :: (A ++ e' :: B) = ((l', x') :: A) ++ (e' :: B) from rfl] at h
      obtain ⟨w, w1, w2⟩ := kP_app.mp h
      obtain ⟨k1, k2, z', k3, k4⟩ := id w2
      have hnA : (kls ((l', x') :: A)).Nodup := by
        have : (kls (((l', x') :: A) ++ (e' :: B))).Nodup := hn'
        rw [kls, List.map_append] at this
        exact (List.nodup_append.mp this).1
      rw [e2] at k3
      rcases zbt_ends g3 k3 with ⟨p1, p2⟩ | ⟨p1, p2⟩
      · have := kP_no hr hnA w1 (ksm_t g2 (by rw [← p1]; exact ksm_s k2))
        cases this
      · have hw : kP fd fi se S (((l', x') :: A) ++ [e']) a x := kP_app.mpr ⟨w, w1, k1, k2, z', by rw [e2]; exact k3, by rw [p2]; exact ksm_r _⟩
        have hn2 : (kls (((l', x') :: A) ++ [e'])).Nodup := by
          have : (kls (((l', x') :: A) ++ (e' :: B))).Nodup := hn'
          rw [show ((l', x') :: A) ++ (e' :: B) = (((l', x') :: A) ++ [e']) ++ B by simp] at this
          rw [kls, List.map_append] at this
          exact (List.nodup_append.mp this).1
        have := kP_no hr hn2 hw g2
        simp at this
end KP
theorem zsum_add {f g : Int → Int} : ∀ n : Nat, zsum (fun i => f i + g i) n = zsum f n + zsum g n
  | 0 => rfl
  | n + 1 => by unfold zsum; rw [zsum_add n]; omega
theorem zsum_sub {f g : Int → Int} : ∀ n : Nat, zsum (fun i => f i - g i) n = zsum f n - zsum g n
  | 0 => rfl
  | n + 1 => by unfold zsum; rw [zsum_sub n]; omega
theorem zsum_mul {f : Int → Int} (k : Int) : ∀ n : Nat, zsum (fun i => k * f i) n = k * zsum f n
  | 0 => by unfold zsum; omega
  | n + 1 => by unfold zsum; rw [zsum_mul k n, Int.mul_add]
theorem zsum_swap {f : Int → Int → Int} (m : Nat) : ∀ n : Nat, zsum (fun i => zsum (fun j => f i j) m) n = zsum (fun j => zsum (fun i => f i j) n) m
  | 0 => by rw [zsum_0 (f := fun j => zsum (fun i => f i j) 0) m (fun _ _ => rfl)]; rfl
  | n + 1 => by
    have e : zsum (fun i => zsum (fun j => f i j) m) (n + 1) = zsum (fun i => zsum (fun j => f i j) m) n + zsum (fun j => f n j) m := rfl
    rw [e, zsum_swap m n, ← zsum_add]
    rfl
theorem zsum_pick {h : Int → Int} {s : Int} (n : Nat) (h0 : 0 ≤ s) (h1 : s < n) : zsum (fun v => if s = v then h v else 0) n = h s := by
  rw [zsum_ch (f := fun v => if s = v then h v else 0) (g := fun _ => 0) n s.toNat (by omega) (fun i hi q => by rw [if_neg (by omega)]), zsum_0 n (fun _ _ => rfl), show ((s.toNat : Nat) : Int) = s by omega, if_pos rfl]
  omega
/-- what comes in at a place -/
def kin (fi se G : Int → Int) (v : Int) : Int := zsum (fun l => (if se l = v then G l else 0) - (if fi l = v then G l else 0)) 24
theorem kin_sub {fi se G H : Int → Int} (v : Int) : kin fi se (fun l => G l - H l) v = kin fi se G v - kin fi se H v := by
  unfold kin
  rw [← zsum_sub]
  refine zsum_congr 24 (fun i _ => ?_)
  by_cases a : se i = v <;> by_cases b : fi i = v <;> simp only [a, b, if_true, if_false] <;> omega
theorem kin_add {fi se G H : Int → Int} (v : Int) : kin fi se (fun l => G l + H l) v = kin fi se G v + kin fi se H v := by
  unfold kin
  rw [← zsum_add]
  refine zsum_congr 24 (fun i _ => ?_)
  by_cases a : se i = v <;> by_cases b : fi i = v <;> simp only [a, b, if_true, if_false] <;> omega
theorem kin_mul {fi se G : Int → Int} (k v : Int) : kin fi se (fun l => k * G l) v = k * kin fi se G v := by
  unfold kin
  rw [← zsum_mul]
  refine zsum_congr 24 (fun i _ => ?_)
  by_cases a : se i = v <;> by_cases b : fi i = v <;> simp only [a, b, if_true, if_false]
  · rw [Int.sub_self, Int.sub_self, Int.mul_zero]
  · rw [Int.sub_zero, Int.sub_zero]
  · rw [Int.zero_sub, Int.zero_sub, Int.mul_neg]
  · rw [Int.sub_self, Int.mul_zero]
/-- one line alone -/
theorem kin_one {fi se : Int → Int} {l k : Int} (v : Int) (h0 : 0 ≤ l) (h1 : l < 24) : kin fi se (fun j => if l = j then k else 0) v = (if se l = v then k else 0) - (if fi l = v then k else 0) := by
  unfold kin
  rw [zsum_congr (g := fun j => if l = j then ((if se j = v then k else 0) - (if fi j = v then k else 0)) else 0) 24 (fun i _ => by
    by_cases q : l = i
    · simp only [q, if_true]
    · simp only [q, if_false]
      by_cases a : se i = v <;> by_cases b : fi i = v <;> simp only [a, b, if_true, if_false] <;> rfl)]
  exact zsum_pick (h := fun j => (if se j = v then k else 0) - (if fi j = v then k else 0)) 24 h0 h1
/-- lines of a radial net that bring nothing anywhere carry nothing -/
theorem kir_one {fd : Int → Prop} {fi se G : Int → Int} {S : Int → Prop} (hr : kRad fd fi se S) (hS : ∀ l, S l → (0 ≤ fi l ∧ fi l < 16) ∧ (0 ≤ se l ∧ se l < 16)) (h0 : ∀ l, 0 ≤ l → l < 24 → ¬ S l → G l = 0) (hk : ∀ v, 0 ≤ v → v < 16 → ¬ fd v → kin fi se G v = 0) : ∀ l, 0 ≤ l → l < 24 → G l = 0 := by
  intro l a b
  by_cases q : S l
  · obtain ⟨c, c1, c2, c3⟩ := hr l q
    obtain ⟨k, hk1⟩ : ∃ k : Bool, ∀ f, fd f → ¬ c f = k := by
      by_cases e : ∃ f, fd f
      · obtain ⟨f, hf⟩ := e
        exact ⟨! c f, fun f' hf' z => by rw [c1 f' f hf' hf] at z; cases h : c f <;> rw [h] at z <;> cases z⟩
      · exact ⟨true, fun f hf => absurd ⟨f, hf⟩ e⟩
    have s1 : zsum (fun v => zsum (fun l => if c v = k then (if se l = v then G l else 0) - (if fi l = v then G l else 0) else 0) 24) 16 = 0 := zsum_0 16 (fun v hv => by
      by_cases z : c v = k
      · have := hk v (by omega) (by omega) (fun f => hk1 _ f z)
        unfold kin at this
        simp only [z, if_true]
        exact this
      · exact zsum_0 24 (fun i _ => by simp only [z, if_false]))
    rw [zsum_swap] at s1
    have s2 : ∀ j : Nat, j < 24 → zsum (fun v => if c v = k then (if se j = v then G j else 0) - (if fi j = v then G j else 0) else 0) 16 = (if c (se j) = k then G j else 0) - (if c (fi j) = k then G j else 0) := by
      intro j hj
      by_cases z : S j
      · have e := hS j z
        rw [zsum_congr (g := fun v => (if se j = v then (if c v = k then G j else 0) else 0) - (if fi j = v then (if c v = k then G j else 0) else 0)) 16 (fun v _ => by
          by_cases p : c v = k
          · simp only [p, if_true]
          · simp only [p, if_false]; split <;> split <;> rfl), zsum_sub, zsum_pick (h := fun v => if c v = k then G j else 0) 16 e.2.1 e.2.2, zsum_pick (h := fun v => if c v = k then G j else 0) 16 e.1.1 e.1.2]
      · rw [h0 j (by omega) (by omega) z, zsum_0 16 (fun v _ => by simp only [ite_self]; omega)]
        split <;> split <;> rfl
    rw [zsum_congr (g := fun j => (if c (se j) = k then G j else 0) - (if c (fi j) = k then G j else 0)) 24 s2, zsum_ch (f := fun j => (if c (se j) = k then G j else 0) - (if c (fi j) = k then G j else 0)) (g := fun _ => 0) 24 l.toNat (by omega) (fun i hi z => by
      by_cases p : S i
      · have := c3 i p (by omega)
        simp only [this]; omega
      · rw [h0 i (by omega) (by omega) p]; split <;> split <;> rfl), zsum_0 24 (fun _ _ => rfl), show ((l.toNat : Nat) : Int) = l by omega] at s1
    cases h1 : c (se l) <;> cases h2 : c (fi l) <;> cases k <;> simp_all
  · exact h0 l a b q
