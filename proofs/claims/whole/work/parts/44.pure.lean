/-! the pure net: the class's rows 4 (all but what is closed), 5 .. 9; a shape is an int -/
def pnet (M : zM) : zM := fun a i => if a = 4 then (if i = 3 then 0 else M 4 i) else if 5 ≤ a ∧ a ≤ 9 then M a i else 0
theorem pnet_r (M : zM) {a : Int} (h : 5 ≤ a ∧ a ≤ 9) : pnet M a = M a := by
  funext i
  unfold pnet
  rw [if_neg (by omega), if_pos h]
theorem pnet_4 (M : zM) {i : Int} (h : i ≠ 3) : pnet M 4 i = M 4 i := by
  unfold pnet
  rw [if_pos rfl, if_neg h]
theorem pnet_5 (M : zM) : pnet M 5 = M 5 := pnet_r M (by omega)
theorem pnet_6 (M : zM) : pnet M 6 = M 6 := pnet_r M (by omega)
theorem pnet_7 (M : zM) : pnet M 7 = M 7 := pnet_r M (by omega)
theorem pnet_8 (M : zM) : pnet M 8 = M 8 := pnet_r M (by omega)
theorem pnet_9 (M : zM) : pnet M 9 = M 9 := pnet_r M (by omega)
theorem pnet_40 (M : zM) : pnet M 4 0 = M 4 0 := pnet_4 M (by decide)
theorem pnet_41 (M : zM) : pnet M 4 1 = M 4 1 := pnet_4 M (by decide)
theorem pnet_42 (M : zM) : pnet M 4 2 = M 4 2 := pnet_4 M (by decide)
theorem pnet_44 (M : zM) : pnet M 4 4 = M 4 4 := pnet_4 M (by decide)
theorem pnet_eq {M M' : zM} (h4 : ∀ i, i ≠ 3 → M' 4 i = M 4 i) (hr : ∀ a, 5 ≤ a → a ≤ 9 → M' a = M a) : pnet M' = pnet M := by
  funext a i
  unfold pnet
  by_cases e : a = 4
  · rw [if_pos e, if_pos e]
    by_cases e2 : i = 3
    · rw [if_pos e2, if_pos e2]
    · rw [if_neg e2, if_neg e2, h4 i e2]
  · rw [if_neg e, if_neg e]
    by_cases e2 : 5 ≤ a ∧ a ≤ 9
    · rw [if_pos e2, if_pos e2, hr a e2.1 e2.2]
    · rw [if_neg e2, if_neg e2]
def pW (N : zM) : Prop :=
  (0 ≤ N 4 2 ∧ N 4 2 ≤ 24)
  ∧ (∀ v, tbs (N 4 0) v → v < 16) ∧ (∀ v, tbs (N 4 1) v → tbs (N 4 0) v)
  ∧ (∀ v, 0 ≤ v → v < 16 → (0 ≤ N 5 v ∧ N 5 v ≤ 99) ∧ (tbs (N 4 1) v → N 5 v = 0) ∧ (¬ tbs (N 4 0) v → N 5 v = 0))
  ∧ (∀ l, 0 ≤ l → l < N 4 2 → ((0 ≤ N 6 l ∧ N 6 l < 16) ∧ (0 ≤ N 7 l ∧ N 7 l < 16) ∧ ¬ N 6 l = N 7 l ∧ tbs (N 4 0) (N 6 l) ∧ tbs (N 4 0) (N 7 l)) ∧ (1 ≤ N 8 l ∧ N 8 l ≤ 99) ∧ (0 ≤ N 9 l ∧ N 9 l ≤ 999))
theorem pW_of {M : zM} (h : zWC M) : pW (pnet M) := by
  unfold pW
  rw [pnet_5, pnet_6, pnet_7, pnet_8, pnet_9, pnet_40, pnet_41, pnet_42]
  exact ⟨h.1, h.2.1, h.2.2.1, h.2.2.2.1, h.2.2.2.2.1⟩
def prad (N : zM) (S : Int) : Prop := kRad (tbs (N 4 1)) (N 6) (N 7) (tbs S)
def pok (N : zM) (S : Int) : Prop := (∀ l, tbs S l → l < N 4 2) ∧ prad N S
def pX (N : zM) (S : Int) (fl ne : Int → Int) : Prop := ∃ (L : Int → Prop) (rt by' de be : Int → Int), kT (tbs (N 4 1)) (N 6) (N 7) (tbs S) L rt by' de ∧ kF (tbs (N 4 1)) (N 5) (N 6) (N 7) L by' be fl ne
noncomputable def pfl (N : zM) (S : Int) : Int → Int := @dite _ (∃ fl ne, pX N S fl ne) (Classical.propDecidable _) (fun h => Classical.choose h) (fun _ _ => 0)
noncomputable def pne (N : zM) (S : Int) : Int → Int := @dite _ (∃ fl ne, pX N S fl ne) (Classical.propDecidable _) (fun h => Classical.choose (Classical.choose_spec h)) (fun _ _ => -1)
theorem pX_p {N : zM} {S : Int} {fl ne : Int → Int} (h : pX N S fl ne) : pX N S (pfl N S) (pne N S) := by
  have h' : ∃ fl ne, pX N S fl ne := ⟨fl, ne, h⟩
  unfold pfl pne
  rw [dif_pos h', dif_pos h']
  exact Classical.choose_spec (Classical.choose_spec h')
theorem pfl_of {N : zM} {S : Int} {fl ne : Int → Int} (hr : prad N S) (h : pX N S fl ne) {l : Int} (h0 : 0 ≤ l) (h1 : l < 24) : fl l = pfl N S l ∧ ne l = pne N S l := by
  obtain ⟨L, rt, by', de, be, k1, k2⟩ := pX_p h
  obtain ⟨L', rt', by2, de', be', q1, q2⟩ := h
  exact (kF_one hr k1 q1 k2 q2).2.2 l h0 h1
theorem pfl_b {N : zM} {S : Int} {fl ne : Int → Int} (h : pX N S fl ne) {l : Int} (h0 : 0 ≤ l) (h1 : l < 24) : 0 ≤ pfl N S l ∧ pfl N S l ≤ 1584 := by
  obtain ⟨L, rt, by', de, be, k1, k2⟩ := pX_p h
  exact k2.2.2.2.2 l h0 h1
/-- of lines that are not closed nothing -/
theorem pfl_off {N : zM} {S : Int} {fl ne : Int → Int} (h : pX N S fl ne) {l : Int} (h0 : 0 ≤ l) (h1 : l < 24) (q : ¬ tbs S l) : pfl N S l = 0 := by
  obtain ⟨L, rt, by', de, be, k1, k2⟩ := pX_p h
  exact (kG_off k1 k2 h0 h1 q).2
noncomputable def pG (N : zM) (S : Int) : Int → Int := kG (N 6) (N 7) (pfl N S) (pne N S)
def pli (N : zM) (S v : Int) : Prop := ∃ f, tbs (N 4 1) f ∧ kcon (tbs (N 4 1)) (N 6) (N 7) (tbs S) v f
noncomputable def plt (N : zM) (S : Int) : Int := zsum (fun v => @ite _ (pli N S v) (Classical.propDecidable _) (N 5 v) 0) 16
noncomputable def pls (N : zM) (S : Int) : Int := zsum (fun l => N 8 l * pfl N S l * pfl N S l) (N 4 2).toNat
def pov (N : zM) (S l : Int) : Prop := l < N 4 2 ∧ N 9 l < pfl N S l
/-! rings, with the place at which each line begins -/
theorem kP_uni {fd : Int → Prop} {fi se : Int → Int} {S : Int → Prop} (hr : kRad fd fi se S) (hne : ∀ l, S l → ¬ fi l = se l) : ∀ {P R : List (Int × Int)} {a b : Int}, kls P = kls R → kP fd fi se S P a b → kP fd fi se S R a b → P = R
  | [], [], _, _, _, _, _ => rfl
  | [], _ :: _, _, _, h, _, _ => by simp [kls] at h
  | _ :: _, [], _, _, h, _, _ => by simp [kls] at h
  | (l, x) :: P, (l', x') :: R, a, b, h, ⟨p1, p2, y, p3, p4⟩, ⟨q1, q2, y', q3, q4⟩ => by
    unfold kls at h
    rw [List.map_cons, List.map_cons] at h
    injection h with h1 h2
    dsimp only at h1 p1 p2 p3 q1 q2 q3
    subst h1
    have hs : ksm fd x x' := ksm_t (ksm_s p2) q2
    have hx : x = x' := by
      rcases zbt_ends p3 q3 with ⟨e1, _⟩ | ⟨e1, e2⟩
      · exact e1.symm
      · exact absurd (by rw [e1] at hs; exact hs) (kP_twz hr p1 p3)
    subst hx
    have hy : y = y' := zbt_u (hne l p1) p3 q3
    subst hy
    rw [kP_uni hr hne h2 p4 q4]
theorem kRing_uni {fd : Int → Prop} {fi se : Int → Int} {S : Int → Prop} {t : Int} {P R : List (Int × Int)} (hr : kRad fd fi se S) (hne : ∀ l, S l → ¬ fi l = se l) (h : kRing fd fi se S t P) (g : kRing fd fi se S t R) : P = R := kP_uni hr hne (kP_one hr h.2 g.2 h.1 g.1) h.1 g.1
noncomputable def prg (N : zM) (S t : Int) : List (Int × Int) := @dite _ (∃ P, kRing (tbs (N 4 1)) (N 6) (N 7) (tbs S) t P) (Classical.propDecidable _) (fun h => Classical.choose h) (fun _ => [])
theorem prg_of {N : zM} {S t : Int} {P : List (Int × Int)} (hr : prad N S) (hne : ∀ l, tbs S l → ¬ N 6 l = N 7 l) (h : kRing (tbs (N 4 1)) (N 6) (N 7) (tbs S) t P) : prg N S t = P := by
  have h' : ∃ P, kRing (tbs (N 4 1)) (N 6) (N 7) (tbs S) t P := ⟨P, h⟩
  unfold prg
  rw [dif_pos h']
  exact kRing_uni hr hne (Classical.choose_spec h') h
theorem prg_no {N : zM} {S t : Int} (h : kNo (tbs (N 4 1)) (N 6) (N 7) (tbs S) t) : prg N S t = [] := by
  unfold prg
  rw [dif_neg]
  rintro ⟨P, p1, p2⟩
  exact kNo_no h P p1
/-- a line of the ring: then there is one -/
theorem prg_r {N : zM} {S t : Int} {e : Int × Int} (h : e ∈ prg N S t) : kRing (tbs (N 4 1)) (N 6) (N 7) (tbs S) t (prg N S t) := by
  unfold prg at h ⊢
  by_cases q : ∃ P, kRing (tbs (N 4 1)) (N 6) (N 7) (tbs S) t P
  · rw [dif_pos q]; exact Classical.choose_spec q
  · rw [dif_neg q] at h; cases h
/-- lines of the ring and what they carry, with a sign -/
noncomputable def prs (N : zM) (S t : Int) : List (Int × Int) := (prg N S t).map (fun e => (e.1, ksg (N 6) (pG N S) e))
/-- what is gained if s is shifted; whether it bears -/
def pgs (N : zM) (R : List (Int × Int)) (s : Int) : Int := match R with
  | [] => 0
  | e :: R => N 8 e.1 * (e.2 * e.2 - (e.2 - s) * (e.2 - s)) + pgs N R s
def pgn (N : zM) (R : List (Int × Int)) (t s : Int) : Int := - N 8 t * s * s + pgs N R s
def pmy (N : zM) (R : List (Int × Int)) (t s : Int) : Prop := (s ≤ N 9 t ∧ -s ≤ N 9 t) ∧ ∀ e, e ∈ R → ((e.2 - s ≤ N 9 e.1 ∧ -(e.2 - s) ≤ N 9 e.1) ∨ ¬ (e.2 ≤ N 9 e.1 ∧ -e.2 ≤ N 9 e.1))
def pex (S t l : Int) : Int := zand (zor S (zshl 1 t)) (zxor (zshl 1 l) (-1))
theorem pex_b {S t l : Int} (ht : 0 ≤ t ∧ t < 32) (hl : 0 ≤ l ∧ l < 32) (x : Int) : tbs (pex S t l) x ↔ (tbs S x ∨ x = t) ∧ x ≠ l := by
  unfold pex
  rw [tbs_and, tbs_or, tbs_1 ht]
  constructor
  · rintro ⟨a, b⟩
    exact ⟨a, fun e => (tbs_not b.1).mp b ((tbs_1 hl).mpr e)⟩
  · rintro ⟨a, b⟩
    have hx : 0 ≤ x ∧ x < 32 := by
      rcases a with a | a
      · exact a.1
      · omega
    exact ⟨a, (tbs_not hx).mpr (fun z => b ((tbs_1 hl).mp z))⟩
/-! the class's reckoning, in pure words -/
section PC
variable {M : zM} {f : Int}
theorem zFO_X (h : zFO M f) : pX (pnet M) (M f 0) (M (f + 5)) (M (f + 6)) := by
  obtain ⟨o1, o2, o3, o4, o5, o6, o7, o8, o9⟩ := h
  unfold pX
  rw [pnet_5, pnet_6, pnet_7, pnet_41]
  exact ⟨_, _, _, _, _, o4, o6⟩
theorem zFO_rad (h : zFO M f) : M f 1 = 1 ↔ prad (pnet M) (M f 0) := by
  obtain ⟨o1, o2, o3, o4, o5, o6, o7, o8, o9⟩ := h
  unfold prad
  rw [pnet_6, pnet_7, pnet_41]
  rcases o3 with ⟨a, b⟩ | ⟨a, b⟩
  · exact ⟨fun _ => b, fun _ => a⟩
  · exact ⟨fun z => by omega, fun z => absurd z b⟩
theorem zFO_li (h : zFO M f) (v : Int) : tbs (M f 2) v ↔ pli (pnet M) (M f 0) v := by
  obtain ⟨o1, o2, o3, o4, o5, o6, o7, o8, o9⟩ := h
  unfold pli kcon
  rw [pnet_6, pnet_7, pnet_41]
  exact kT_lit o4 v
theorem zFO_fl (h : zFO M f) (hr : prad (pnet M) (M f 0)) {l : Int} (h0 : 0 ≤ l) (h1 : l < 24) : M (f + 5) l = pfl (pnet M) (M f 0) l ∧ M (f + 6) l = pne (pnet M) (M f 0) l := pfl_of hr (zFO_X h) h0 h1
theorem zFO_lt (h : zFO M f) : M f 4 = plt (pnet M) (M f 0) := by
  have hl := zFO_li h
  obtain ⟨o1, o2, o3, o4, o5, o6, o7, o8, o9⟩ := h
  rw [o7]
  unfold plt
  rw [pnet_5]
  refine zsum_congr 16 (fun i hi => ?_)
  by_cases q : tb (M f 2) i = true
  · rw [if_pos q, if_pos ((hl i).mp ⟨by omega, q⟩)]
  · rw [if_neg q, if_neg (fun z => q ((hl i).mpr z).2)]
theorem zFO_ls (hW : zWC M) (h : zFO M f) (hr : prad (pnet M) (M f 0)) : M f 5 = pls (pnet M) (M f 0) := by
  have hf := @zFO_fl M f h hr
  obtain ⟨o1, o2, o3, o4, o5, o6, o7, o8, o9⟩ := h
  rw [o8]
  unfold pls
  rw [pnet_8, pnet_42]
  refine zsum_congr _ (fun i hi => ?_)
  have := hW.1
  rw [(hf (l := i) (by omega) (by omega)).1]
theorem zFO_ov (hW : zWC M) (h : zFO M f) (hr : prad (pnet M) (M f 0)) : zmk (M f 3) (pov (pnet M) (M f 0)) := by
  have hf := @zFO_fl M f h hr
  obtain ⟨o1, o2, o3, o4, o5, o6, o7, o8, o9⟩ := h
  have := hW.1
  refine ⟨o9.1, fun i h0 h1 => ?_⟩
  rw [o9.2 i h0 h1]
  unfold pov
  rw [pnet_9, pnet_42]
  constructor
  · rintro ⟨a, b⟩; rw [(hf h0 (by omega)).1] at b; exact ⟨a, b⟩
  · rintro ⟨a, b⟩; rw [← (hf h0 (by omega)).1] at b; exact ⟨a, b⟩
end PC
