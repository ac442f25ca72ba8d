/-! the class: Ring.find -/
/-- a ring of a tie; no way between its ends -/
def kRing (fd : Int → Prop) (fi se : Int → Int) (S : Int → Prop) (t : Int) (P : List (Int × Int)) : Prop := kP fd fi se S P (fi t) (se t) ∧ (kls P).Nodup
def kNo (fd : Int → Prop) (fi se : Int → Int) (S : Int → Prop) (t : Int) : Prop := ∃ c : Int → Bool, kfc fd c ∧ (∀ l, S l → c (fi l) = c (se l)) ∧ ¬ c (fi t) = c (se t)
theorem kNo_no {fd : Int → Prop} {fi se : Int → Int} {S : Int → Prop} {t : Int} (h : kNo fd fi se S t) : ∀ P, ¬ kP fd fi se S P (fi t) (se t) := fun P g => by
  obtain ⟨c, c1, c2, c3⟩ := h
  refine c3 (kP_c c1 (fun l hl => ?_) g)
  obtain ⟨e, e1, e2⟩ := List.mem_map.mp hl
  rw [← e2]; exact c2 _ (kP_S g e e1).1
theorem nodup_mapI {f : Int → Int} : ∀ {L : List Int}, L.Nodup → (∀ x y, x ∈ L → y ∈ L → f x = f y → x = y) → (L.map f).Nodup
  | [], _, _ => List.nodup_nil
  | a :: L, h, g => by
    rw [List.nodup_cons] at h
    rw [List.map_cons, List.nodup_cons]
    refine ⟨fun z => ?_, nodup_mapI h.2 (fun x y p q => g x y (List.mem_cons_of_mem _ p) (List.mem_cons_of_mem _ q))⟩
    obtain ⟨b, b1, b2⟩ := List.mem_map.mp z
    have := g b a (List.mem_cons_of_mem _ b1) (List.mem_cons_self) b2
    rw [this] at b1
    exact h.1 b1
/-- what find has on its way: xs from the first place up, ys from the second, the last first -/
def kRI (th fd cl : Int → Prop) (fi se rt by' de : Int → Int) (u0 w0 : Int) (xs ys : List Int) (u w : Int) : Prop :=
  (th u ∧ th w) ∧ zsame fd rt u w
  ∧ kP fd fi se cl (xs.map (fun x => (by' x, x))) u0 u ∧ kP fd fi se cl (ys.map (fun y => (by' y, kpr fi se by' y))) w w0
  ∧ (xs ++ ys).Nodup ∧ (∀ x, x ∈ xs → th x ∧ ¬ by' x = -1 ∧ de w ≤ de x ∧ x ≠ w ∧ de u < de x) ∧ (∀ y, y ∈ ys → th y ∧ ¬ by' y = -1 ∧ de u < de y ∧ de w < de y)
section RF
variable {th cl fd : Int → Prop} {fi se rt by' de fl ne lo be : Int → Int} {u0 w0 u w : Int} {xs ys : List Int}
theorem kRI_u (h : kA th fi se cl rt by' de) (hc : ∀ l, cl l → 0 ≤ l ∧ ¬ fi l = se l) (I : kRI th fd cl fi se rt by' de u0 w0 xs ys u w) (hd : ¬ de u < de w) (hne : u ≠ w) (hb : ¬ by' u = -1) : kRI th fd cl fi se rt by' de u0 w0 (xs ++ [u]) ys (kpr fi se by' u) w := by
  obtain ⟨⟨i1, i2⟩, i3, i4, i5, i6, i7, i8⟩ := I
  obtain ⟨a1, a2, a3, a4, a5⟩ := kA_pr h hc i1 hb
  refine ⟨⟨a3, i2⟩, ?_, ?_, i5, ?_, ?_, ?_⟩
  · unfold zsame at i3 ⊢; rw [← a4]; exact i3
  · rw [List.map_append, kP_app]
    exact ⟨u, i4, a1, ksm_r _, _, zbt_s a2, ksm_r _⟩
  · rw [List.append_assoc, List.singleton_append]
    refine List.Perm.nodup (List.perm_middle.symm) ?_
    rw [List.nodup_cons]
    refine ⟨fun z => ?_, i6⟩
    rcases List.mem_append.mp z with z | z
    · have := (i7 u z).2.2.2.2; omega
    · have := (i8 u z).2.2.1; omega
  · intro x hx
    rcases List.mem_append.mp hx with z | z
    · obtain ⟨b1, b2, b3, b4, b5⟩ := i7 x z
      exact ⟨b1, b2, b3, b4, by omega⟩
    · rw [List.mem_singleton] at z
      subst z
      exact ⟨i1, hb, by omega, hne, by omega⟩
  · intro y hy
    obtain ⟨b1, b2, b3, b4⟩ := i8 y hy
    exact ⟨b1, b2, by omega, b4⟩
theorem kRI_w (h : kA th fi se cl rt by' de) (hc : ∀ l, cl l → 0 ≤ l ∧ ¬ fi l = se l) (I : kRI th fd cl fi se rt by' de u0 w0 xs ys u w) (hd : de u < de w) (hb : ¬ by' w = -1) : kRI th fd cl fi se rt by' de u0 w0 xs (w :: ys) u (kpr fi se by' w) := by
  obtain ⟨⟨i1, i2⟩, i3, i4, i5, i6, i7, i8⟩ := I
  obtain ⟨a1, a2, a3, a4, a5⟩ := kA_pr h hc i2 hb
  refine ⟨⟨i1, a3⟩, ?_, i4, ?_, ?_, ?_, ?_⟩
  · unfold zsame at i3 ⊢; rw [← a4]; exact i3
  · rw [List.map_cons]
    exact ⟨a1, ksm_r _, _, a2, i5⟩
  · refine List.Perm.nodup (List.perm_middle.symm) ?_
    rw [List.nodup_cons]
    refine ⟨fun z => ?_, i6⟩
    rcases List.mem_append.mp z with z | z
    · exact (i7 w z).2.2.2.1 rfl
    · have := (i8 w z).2.2.2; omega
  · intro x hx
    obtain ⟨b1, b2, b3, b4, b5⟩ := i7 x hx
    exact ⟨b1, b2, by omega, fun z => by rw [z] at b3; omega, b5⟩
  · intro y hy
    rcases List.mem_cons.mp hy with z | z
    · subst z; exact ⟨i2, hb, hd, by omega⟩
    · obtain ⟨b1, b2, b3, b4⟩ := i8 y z
      exact ⟨b1, b2, b3, by omega⟩
theorem kRI_len (hth : ∀ v, th v → 0 ≤ v ∧ v < 16) (I : kRI th fd cl fi se rt by' de u0 w0 xs ys u w) : xs.length + ys.length ≤ 16 := by
  have := nodup_16 (b := 16) I.2.2.2.2.1 (fun x hx => by
    rcases List.mem_append.mp hx with z | z
    · exact hth x (I.2.2.2.2.2.1 x z).1
    · exact hth x (I.2.2.2.2.2.2 x z).1)
  rw [List.length_append] at this
  exact this
/-- the two have met -/
theorem kRI_end (h : kA th fi se cl rt by' de) (hc : ∀ l, cl l → 0 ≤ l ∧ ¬ fi l = se l) (I : kRI th fd cl fi se rt by' de u0 w0 xs ys u w) (hm : u = w ∨ (de u = 0 ∧ de w = 0)) : kP fd fi se cl (xs.map (fun x => (by' x, x)) ++ ys.map (fun y => (by' y, kpr fi se by' y))) u0 w0 ∧ (kls (xs.map (fun x => (by' x, x)) ++ ys.map (fun y => (by' y, kpr fi se by' y)))).Nodup := by
  obtain ⟨⟨i1, i2⟩, i3, i4, i5, i6, i7, i8⟩ := I
  have hr : ∀ x, th x → de x = 0 → rt x = x := fun x hx q => by
    rcases (h x hx).2 with z | ⟨_, y, y1, _, _, y2⟩
    · exact z.2.2
    · have := (h y y1).1; omega
  have hs : ksm fd u w := by
    rcases hm with q | ⟨q1, q2⟩
    · exact Or.inl q
    · unfold zsame at i3
      rw [hr u i1 q1, hr w i2 q2] at i3
      exact i3
  refine ⟨kP_app.mpr ⟨u, i4, kP_sm hs i5⟩, ?_⟩
  have e : kls (xs.map (fun x => (by' x, x)) ++ ys.map (fun y => (by' y, kpr fi se by' y))) = (xs ++ ys).map by' := by
    unfold kls
    rw [List.map_append, List.map_map, List.map_map, List.map_append]
    rfl
  rw [e]
  refine nodup_mapI i6 (fun x y hx hy q => ?_)
  have hx' : th x ∧ ¬ by' x = -1 := by
    rcases List.mem_append.mp hx with z | z
    · exact ⟨(i7 x z).1, (i7 x z).2.1⟩
    · exact ⟨(i8 x z).1, (i8 x z).2.1⟩
  have hy' : th y := by
    rcases List.mem_append.mp hy with z | z
    · exact (i7 y z).1
    · exact (i8 y z).1
  exact kA_inj h hc hx'.1 hy' hx'.2 q
end RF
section RG2
variable {Q : Int → zM → Prop} {M : zM} {f g : Int}
/-- whether closed lines lead from one to the other -/
theorem c4 {u w : Int} (kf : zKT f = (2, 0)) (hu : 0 ≤ u ∧ u < 16) (hw : 0 ≤ w ∧ w < 16) (hl : ∀ v, 0 ≤ v → v < 16 → (v = u ∨ v = w) → (tbs (M f 2) v ↔ tbs (M 4 1) (M (f + 1) v))) (h0 : ¬ zsame (tbs (M 4 1)) (M (f + 1)) u w → Q 0 M) (h1 : zsame (tbs (M 4 1)) (M (f + 1)) u w → Q 1 M) : zF 4 Q [(2, f), (0, u), (0, w)] M := by
  have hu' := hl u hu.1 hu.2 (Or.inl rfl)
  have hw' := hl w hw.1 hw.2 (Or.inr rfl)
  refine s4_0 kf (c2 kf ⟨hu.1, by omega⟩ (fun q => ⟨fun z => absurd rfl z, fun _ => ?_⟩) (fun q => ⟨fun _ => ?_, fun z => absurd z (by decide)⟩))
  · refine c2 kf ⟨hw.1, by omega⟩ (fun q2 => ⟨fun _ => ⟨hu, hw, fun z => h0 ?_, fun z => h1 (Or.inl z)⟩, fun z => absurd rfl z⟩) (fun q2 => ⟨fun z => absurd z (by decide), fun _ => ?_⟩)
    · rintro (y | y)
      · exact z y
      · exact q (hu'.mpr y.1)
    · refine c2 kf ⟨hu.1, by omega⟩ (fun _ => ⟨fun _ => h0 ?_, fun z => absurd rfl z⟩) (fun q3 => absurd q3 q)
      rintro (y | y)
      · exact q (hu'.mpr (by rw [y]; exact hw'.mp q2))
      · exact q (hu'.mpr y.1)
  · refine c2 kf ⟨hu.1, by omega⟩ (fun q3 => absurd q q3) (fun _ => ⟨fun z => absurd z (by decide), fun _ => ?_⟩)
    refine c2 kf ⟨hw.1, by omega⟩ (fun q2 => ⟨fun _ => h0 ?_, fun z => absurd rfl z⟩) (fun q2 => ⟨fun z => absurd z (by decide), fun _ => h1 (Or.inr ⟨hu'.mp q, hw'.mp q2⟩)⟩)
    rintro (y | y)
    · exact q2 (hw'.mpr (by rw [← y]; exact hu'.mp q))
    · exact q2 (hw'.mpr y.2)
theorem c54 {u w : Int} (kf : zKT f = (2, 0)) (hu : 0 ≤ u ∧ u < 16) (hw : 0 ≤ w ∧ w < 16) (h0 : u ≠ w → ¬ (M (f + 3) u = 0 ∧ M (f + 3) w = 0) → Q 0 M) (h1 : (u = w ∨ (M (f + 3) u = 0 ∧ M (f + 3) w = 0)) → Q 1 M) : zF 54 Q [(2, f), (0, u), (0, w)] M :=
  s54_0 kf ⟨fun q => h1 (Or.inl q), fun q => ⟨hu, fun z => h0 q (fun y => z y.1), fun z => ⟨hw, fun z2 => h0 q (fun y => z2 y.2), fun z2 => h1 (Or.inr ⟨z, z2⟩)⟩⟩⟩
/-- a line comes behind the ring -/
def zrad (M : zM) (g l x : Int) : zM := zset (zset (zset M (g + 1) (M g 0) l) (g + 2) (M g 0) x) g 0 (M g 0 + 1)
theorem c55 {l s : Int} (kf : zKT f = (2, 0)) (kg : zKT g = (2, 5)) (h0 : 0 ≤ M g 0 ∧ M g 0 < 16) (hl : 0 ≤ l ∧ l < 24) (hx : 0 ≤ M (f + 5) l ∧ M (f + 5) l ≤ 1584) (hs : s = 1 ∨ s = -1) (h : Q 0 (zrad M g l (s * M (f + 5) l))) : zF 55 Q [(2, g), (0, l), (0, s), (2, f)] M := by
  refine s55_0 kf kg ⟨fun q => by omega, fun _ => ⟨fun _ => ⟨h0, hl, ?_⟩, fun q => absurd h0.2 q⟩⟩
  rw [zw_id (x := M g 0 + 1) (by omega), zw_id (x := s * M (f + 5) l) (by rcases hs with e | e <;> subst e <;> omega)]
  exact h
theorem zrad_f {l x : Int} (hg : ∃ c, g = c) : zfm g (g + 3) M (zrad M g l x) := zfm_s (zfm_s (zfm_s zfm_r (by omega)) (by omega)) (by omega)
theorem zrad_0 {l x : Int} : zrad M g l x g = fset (M g) 0 (M g 0 + 1) := by
  unfold zrad
  rw [zrow_s, zrow_o _ (by omega), zrow_o _ (by omega)]
theorem zrad_1 {l x : Int} : zrad M g l x (g + 1) = fset (M (g + 1)) (M g 0) l := by
  unfold zrad
  rw [zrow_o _ (by omega), zrow_o _ (by omega), zrow_s]
theorem zrad_2 {l x : Int} : zrad M g l x (g + 2) = fset (M (g + 2)) (M g 0) x := by
  unfold zrad
  rw [zrow_o _ (by omega), zrow_s, zrow_o _ (by omega)]
theorem zrad_3 {l x : Int} : zrad M g l x (g + 3) = M (g + 3) := by
  unfold zrad
  rw [zrow_o _ (by omega), zrow_o _ (by omega), zrow_o _ (by omega)]
theorem kro_push {r : Int → Int} {L : List Int} {x : Int} (h : kro r 0 L) : kro (fset r L.length x) 0 (L ++ [x]) := by
  rw [kro_app]
  refine ⟨kro_cg (fun i _ b => fset_o _ (by omega)) h, ?_, trivial⟩
  rw [Int.zero_add, fset_s]
end RG2
