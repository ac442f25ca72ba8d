/-! REACHED, pure: a list of shapes as they are found, 301 at most; the class's table of shapes -/
def padd (L : List Int) (s : Int) : List Int := if 300 < L.length ∨ s ∈ L then L else L ++ [s]
noncomputable def plr (N : zM) (S t : Int) : List (Int × Int) → List Int → List Int
  | [], L => L
  | e :: B, L => plr N S t B (@ite _ (pmy N (prs N S t) t e.2) (Classical.propDecidable _) (padd L (pex S t e.1)) L)
noncomputable def pgo (N : zM) (S : Int) : Nat → List Int → List Int
  | 0, L => L
  | t + 1, L => @ite _ (ptie N S t) (Classical.propDecidable _) (plr N S t (prs N S t) (pgo N S t L)) (pgo N S t L)
noncomputable def pall (N : zM) : List Int → List Int → List Int
  | [], L => L
  | s :: B, L => pall N B (pgo N s (N 4 2).toNat L)
noncomputable def plevel (N : zM) : Nat → Nat → List Int → List Int
  | 0, _, L => L
  | n + 1, k, L => plevel N n L.length (pall N (L.drop k) L)
noncomputable def pre (N : zM) (S : Int) (n : Nat) : List Int := plevel N n 0 [S]
theorem pgo_s {N : zM} {S : Int} {L : List Int} (t : Nat) : pgo N S (t + 1) L = @ite _ (ptie N S t) (Classical.propDecidable _) (plr N S t (prs N S t) (pgo N S t L)) (pgo N S t L) := rfl
theorem padd_full {L : List Int} {s : Int} (h : 300 < L.length) : padd L s = L := by unfold padd; rw [if_pos (Or.inl h)]
theorem plr_full {N : zM} {S t : Int} : ∀ {B : List (Int × Int)} {L : List Int}, 300 < L.length → plr N S t B L = L
  | [], _, _ => rfl
  | e :: B, L, h => by
    show plr N S t B (@ite _ (pmy N (prs N S t) t e.2) (Classical.propDecidable _) (padd L (pex S t e.1)) L) = L
    rw [padd_full h, ite_self, plr_full h]
theorem pgo_full {N : zM} {S : Int} {L : List Int} (h : 300 < L.length) : ∀ n, pgo N S n L = L
  | 0 => rfl
  | n + 1 => by rw [pgo_s, pgo_full h n, plr_full h, ite_self]
theorem pall_full {N : zM} : ∀ {B L : List Int}, 300 < L.length → pall N B L = L
  | [], _, _ => rfl
  | s :: B, L, h => by
    show pall N B (pgo N s (N 4 2).toNat L) = L
    rw [pgo_full h, pall_full h]
theorem plevel_full {N : zM} {L : List Int} (h : 300 < L.length) : ∀ n k, plevel N n k L = L
  | 0, _ => rfl
  | n + 1, k => by
    show plevel N n L.length (pall N (L.drop k) L) = L
    rw [pall_full h, plevel_full h n]
/-- what all shapes of a list have, goes over -/
theorem padd_all {p : Int → Prop} {L : List Int} {s : Int} (h : ∀ x, x ∈ L → p x) (hs : p s) : ∀ x, x ∈ padd L s → p x := fun x hx => by
  unfold padd at hx
  split at hx
  · exact h x hx
  · rcases List.mem_append.mp hx with q | q
    · exact h x q
    · rw [List.mem_singleton] at q; rw [q]; exact hs
theorem padd_pre {L : List Int} {s : Int} : ∃ R, padd L s = L ++ R := by
  unfold padd
  split
  · exact ⟨[], by simp⟩
  · exact ⟨[s], rfl⟩
theorem plr_pre {N : zM} {S t : Int} : ∀ {B : List (Int × Int)} {L : List Int}, ∃ R, plr N S t B L = L ++ R
  | [], L => ⟨[], by simp [plr]⟩
  | e :: B, L => by
    show ∃ R, plr N S t B (@ite _ (pmy N (prs N S t) t e.2) (Classical.propDecidable _) (padd L (pex S t e.1)) L) = L ++ R
    split
    · obtain ⟨R, r⟩ := plr_pre (N := N) (S := S) (t := t) (B := B) (L := padd L (pex S t e.1))
      obtain ⟨R', r'⟩ := padd_pre (L := L) (s := pex S t e.1)
      exact ⟨R' ++ R, by rw [r, r', List.append_assoc]⟩
    · exact plr_pre
theorem pgo_pre {N : zM} {S : Int} {L : List Int} : ∀ n, ∃ R, pgo N S n L = L ++ R
  | 0 => ⟨[], by simp [pgo]⟩
  | n + 1 => by
    obtain ⟨R, r⟩ := pgo_pre (N := N) (S := S) (L := L) n
    rw [pgo_s]
    split
    · obtain ⟨R', r'⟩ := plr_pre (N := N) (S := S) (t := n) (B := prs N S n) (L := pgo N S n L)
      exact ⟨R ++ R', by rw [r', r, List.append_assoc]⟩
    · exact ⟨R, r⟩
theorem pall_pre {N : zM} : ∀ {B L : List Int}, ∃ R, pall N B L = L ++ R
  | [], L => ⟨[], by simp [pall]⟩
  | s :: B, L => by
    obtain ⟨R, r⟩ := pgo_pre (N := N) (S := s) (L := L) (N 4 2).toNat
    obtain ⟨R', r'⟩ := pall_pre (N := N) (B := B) (L := pgo N s (N 4 2).toNat L)
    exact ⟨R ++ R', by show pall N B (pgo N s (N 4 2).toNat L) = _; rw [r', r, List.append_assoc]⟩
theorem plr_len {N : zM} {S t : Int} : ∀ {B : List (Int × Int)} {L : List Int}, L.length ≤ 301 → (plr N S t B L).length ≤ 301
  | [], _, h => h
  | e :: B, L, h => by
    show (plr N S t B (@ite _ (pmy N (prs N S t) t e.2) (Classical.propDecidable _) (padd L (pex S t e.1)) L)).length ≤ 301
    refine plr_len ?_
    split
    · unfold padd
      split
      · exact h
      · rename_i q; rw [List.length_append, List.length_singleton]; omega
    · exact h
def psx (N : zM) (S : Int) : Prop := pok N S ∧ pD N S ∧ r32 S
theorem psx_x {N : zM} {S t : Int} {e : Int × Int} (hW : pW N) (h : psx N S) (ht : ptie N S t) (he : e ∈ prs N S t) : psx N (pex S t e.1) := by
  obtain ⟨x, x1, x2⟩ := List.mem_map.mp he
  have ex : e.1 = x.1 := by rw [← x2]
  rw [ex]
  refine ⟨pok_x hW h.1 ht.1 x1, fun y hy => ?_, zand_r _ _⟩
  rcases ((pex_s hW h.1 ht.1 x1 y).mp hy).1 with q | q
  · exact h.2.1 y q
  · rw [q]; exact ht.2.2
theorem plr_all {N : zM} {S t : Int} (hW : pW N) (h : psx N S) (ht : ptie N S t) : ∀ {B : List (Int × Int)} {L : List Int}, (∀ e, e ∈ B → e ∈ prs N S t) → (∀ x, x ∈ L → psx N x) → ∀ x, x ∈ plr N S t B L → psx N x
  | [], _, _, hL => hL
  | e :: B, L, hB, hL => by
    show ∀ x, x ∈ plr N S t B (@ite _ (pmy N (prs N S t) t e.2) (Classical.propDecidable _) (padd L (pex S t e.1)) L) → psx N x
    refine plr_all hW h ht (fun x hx => hB x (List.mem_cons_of_mem _ hx)) ?_
    split
    · exact padd_all hL (psx_x hW h ht (hB e List.mem_cons_self))
    · exact hL
theorem pgo_all {N : zM} {S : Int} {L : List Int} (hW : pW N) (h : psx N S) (hL : ∀ x, x ∈ L → psx N x) : ∀ n, ∀ x, x ∈ pgo N S n L → psx N x
  | 0 => hL
  | n + 1 => by
    rw [pgo_s]
    by_cases q : ptie N S n
    · rw [if_pos q]; exact plr_all hW h q (fun _ z => z) (pgo_all hW h hL n)
    · rw [if_neg q]; exact pgo_all hW h hL n
/-- the least loss, of like ones the lowest -/
def kLe (N : zM) (L : List Int) (a b : Int) : Prop := b ∈ L ∧ a = pls N b ∧ ∀ s, s ∈ L → a < pls N s ∨ (a = pls N s ∧ b ≤ s)
theorem kLe_u {N : zM} {L : List Int} {a b a' b' : Int} (h : kLe N L a b) (g : kLe N L a' b') : a = a' ∧ b = b' := by
  have x := h.2.2 _ g.1
  have y := g.2.2 _ h.1
  have := h.2.1
  have := g.2.1
  omega
/-! the table -/
theorem zushr_23 (y : Int) : 0 ≤ zushr y 23 ∧ zushr y 23 < 512 := by
  unfold zushr
  generalize (Int32.ofInt y).toUInt32 = u
  have e : (Int32.ofInt 23).toUInt32 &&& Int32.toUInt32 31 = 23 := by decide
  rw [e]
  have h : (u >>> (23 : UInt32)).toNat < 512 := by
    rw [UInt32.toNat_shiftRight]
    have := u.toNat_lt
    show u.toNat >>> (23 % 32) < 512
    rw [Nat.shiftRight_eq_div_pow, show 2 ^ (23 % 32) = 8388608 from rfl]
    omega
  generalize u >>> (23 : UInt32) = w at h
  have : w.toInt32.toInt = (w.toNat : Int) := by
    show w.toBitVec.toInt = _
    rw [BitVec.toInt_eq_toNat_of_lt (by show 2 * w.toNat < 4294967296; omega)]
    rfl
  rw [this]
  omega
theorem zand_511 {v : Int} (h : 0 ≤ v ∧ v < 512) : zand (zw (v + 1)) 511 = (v + 1) % 512 := by
  obtain ⟨a, rfl⟩ : ∃ a : Nat, v = a := ⟨v.toNat, by omega⟩
  have key : ∀ a : Nat, a < 512 → zand (zw ((a : Int) + 1)) 511 = ((a : Int) + 1) % 512 := by decide +kernel
  exact key a (by omega)
def zhs (x : Int) : Int := zushr (zw (x * (-1640531535))) 23
def zhp (M : zM) (L : List Int) : Prop :=
  (∀ s, 0 ≤ s → s < 512 → M 99 s = 0 ∨ (1 ≤ M 99 s ∧ M 99 s ≤ L.length))
  ∧ (∀ s s', 0 ≤ s → s < 512 → 0 ≤ s' → s' < 512 → ¬ M 99 s = 0 → M 99 s = M 99 s' → s = s')
  ∧ (∀ j : Nat, (h : j < L.length) → ∃ d : Nat, d < 512 ∧ M 99 ((zhs L[j] + d) % 512) = j + 1 ∧ ∀ d' : Nat, d' < d → ¬ M 99 ((zhs L[j] + d') % 512) = 0)
section SL
variable {Q : Int → zM → Prop} {M : zM} {L : List Int} {x : Int}
theorem c62 (hl : L.length ≤ 300) (hp : zhp M L) (hr : kro (M 98) 0 L)
    (h1 : x ∈ L → ∀ r, 0 ≤ r → r < 512 → ¬ M 99 r = 0 → Q r M)
    (h0 : x ∉ L → ∀ (r : Int) (d : Nat), 0 ≤ r → r < 512 → d < 512 → r = (zhs x + d) % 512 → M 99 r = 0 → (∀ d' : Nat, d' < d → ¬ M 99 ((zhs x + d') % 512) = 0) → Q r M) : zF 62 Q [(2, 97), (0, x)] M := by
  obtain ⟨p1, p2, p3⟩ := hp
  have hb := zushr_23 (zw (x * (-1640531535)))
  have at' : ∀ i : Nat, (h : i < L.length) → M 98 i = L[i] := fun i h => by
    have := kro_at hr i h
    rw [Int.zero_add] at this
    exact this
  have key : ∀ (n d : Nat), d + n = 512 → (∀ d' : Nat, d' < d → ¬ M 99 ((zhs x + d') % 512) = 0) → (∀ d' : Nat, d' < d → ¬ M 98 (M 99 ((zhs x + d') % 512) - 1) = x) → zS 62 Q 10 [(2, 97), (0, x), (0, (zhs x + d) % 512), (0, (d : Int)), (3, 0)] [] M := by
    intro n
    induction n with
    | zero =>
      intro d hd g1 g2
      exfalso
      have := pigI (f := fun i => M 99 i - 1) (n := 512) (b := (L.length : Int)) (fun i i0 i1 => by
        have a := p1 i i0 i1
        have b := g1 ((i - zhs x) % 512).toNat (by omega)
        rw [show (zhs x + (((i - zhs x) % 512).toNat : Int)) % 512 = i by omega] at b
        omega) (fun i j i0 i1 j0 j1 e => by
        have b := g1 ((i - zhs x) % 512).toNat (by omega)
        rw [show (zhs x + (((i - zhs x) % 512).toNat : Int)) % 512 = i by omega] at b
        exact p2 i j i0 i1 j0 j1 b (by omega)) (by omega)
      omega
    | succ n ih =>
      intro d hd g1 g2
      have hv : 0 ≤ (zhs x + (d : Int)) % 512 ∧ (zhs x + (d : Int)) % 512 < 512 := by omega
      have a := p1 _ hv.1 hv.2
      have go : ¬ M 99 ((zhs x + (d : Int)) % 512) = 0 → ¬ M 98 (M 99 ((zhs x + (d : Int)) % 512) - 1) = x → zS 62 Q 10 [(2, 97), (0, x), (0, zand (zw ((zhs x + (d : Int)) % 512 + 1)) 511), (0, zw ((d : Int) + 1)), (3, 0)] [] M := fun q1 q2 => by
        rw [zand_511 hv, zw_id (by omega), show ((zhs x + (d : Int)) % 512 + 1) % 512 = (zhs x + ((d + 1 : Nat) : Int)) % 512 by omega]
        refine ih (d + 1) (by omega) (fun d' h => ?_) (fun d' h => ?_)
        · by_cases e : d' = d
          · rw [e]; exact q1
          · exact g1 d' (by omega)
        · by_cases e : d' = d
          · rw [e]; exact q2
          · exact g2 d' (by omega)
      refine s62_10 ⟨fun q => by omega, fun _ => ⟨hv, fun q => ?_, fun q => ⟨fun q2 => by omega, fun _ => ?_⟩⟩⟩
      · by_cases hx : x ∈ L
        · exfalso
          obtain ⟨j, j1, j2⟩ := List.getElem_of_mem hx
          obtain ⟨d0, e1, e2, e3⟩ := p3 j j1
          rw [j2] at e2 e3
          rcases Nat.lt_trichotomy d d0 with y | y | y
          · exact e3 d y q
          · rw [← y, q] at e2; omega
          · refine g2 d0 y ?_
            rw [e2, show ((j : Nat) : Int) + 1 - 1 = (j : Int) by omega, at' j j1]
            exact j2
        · exact h0 hx _ d hv.1 hv.2 (by omega) rfl q g1
      · rw [zw_id (by omega)]
        refine ⟨by omega, fun q2 => go q q2, fun q2 => ?_⟩
        refine h1 ?_ _ hv.1 hv.2 q
        have := at' (M 99 ((zhs x + (d : Int)) % 512) - 1).toNat (by omega)
        rw [show (((M 99 ((zhs x + (d : Int)) % 512) - 1).toNat : Nat) : Int) = M 99 ((zhs x + (d : Int)) % 512) - 1 by omega, q2] at this
        rw [this]
        exact List.getElem_mem _
  refine s62_0 ?_
  have e : zushr (zw (x * (-1640531535))) 23 = (zhs x + ((0 : Nat) : Int)) % 512 := by
    show _ = (zushr (zw (x * (-1640531535))) 23 + 0) % 512
    omega
  rw [e]
  exact key 512 0 rfl (fun d' h => by omega) (fun d' h => by omega)
end SL
