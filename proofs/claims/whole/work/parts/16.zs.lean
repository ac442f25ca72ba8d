/-! zS: a frame that makes no cell; final references lie where the constructors put them (zLay) -/
def zrfL : List (List (Option Nat)) := [[none, none, none, none, none, none, some 1, some 2, some 3, some 4, some 5, some 6, some 7, none, none], [none, none, none, none, none, some 1, some 2, some 3, some 4, some 5, some 6, some 7], [some 1, none], [some 1, none, some 9, none, none, none, none], [none, none, none, some 1, none, some 2, some 3, none, none], [none, some 1, some 2, some 3, none], [none, none, none, none, some 1, some 2, some 3, some 11, none], [none, none, none, none, some 1], [some 1, some 2, none, some 3, some 11, some 19, some 27, some 77, some 87, some 91, some 96, some 111], [some 1, some 2, none, none, some 3, some 4, some 5, some 6, some 7, some 8, some 9, none, some 10, none, none, none, none, none, some 11, some 12, some 13, some 14, some 15, some 16, some 17, some 18, some 19, some 20, some 21, some 22, some 23, none, some 24, some 25, none, some 26, some 27, some 28, some 29, some 30, none, some 31, some 32, some 33, some 34, none, none, none, none, none, none, none, some 35, none, none, none]]
def zrf (c j : Nat) : Option Nat := (zrfL.getD c []).getD j none
def zLay (M : zM) : Prop := ∀ (a : Int) (c j o : Nat), zKT a = (2, c) → zrf c j = some o → M a j = a + o
def zS (k : Nat) (Q : Int → zM → Prop) (pc : Nat) (L st : List zV) (M : zM) : Prop := zLay M → ∀ n : Int, zG k n (fun r n' M' => n' = n ∧ zLay M' ∧ Q r M') pc L st n M
/-- a call that makes no cell -/
def zF (k : Nat) (Q : Int → zM → Prop) (As : List zV) (M : zM) : Prop := zS k Q 0 (zpad (zml k) (zspr As)) [] M
/-- which cells lie behind an object of a class -/
def zKoL : List (Nat × Nat × Nat × Nat) := [(0, 1, 0, 16), (0, 2, 0, 16), (0, 3, 0, 16), (0, 4, 0, 16), (0, 5, 0, 24), (0, 6, 0, 24), (0, 7, 0, 16), (1, 1, 0, 16), (1, 2, 0, 24), (1, 3, 0, 24), (1, 4, 0, 24), (1, 5, 0, 24), (1, 6, 0, 17), (1, 7, 0, 48), (2, 1, 1, 6), (3, 1, 2, 1), (3, 9, 0, 16), (4, 1, 0, 12), (4, 2, 0, 128), (4, 3, 2, 0), (5, 1, 0, 16), (5, 2, 0, 16), (5, 3, 0, 16), (6, 1, 0, 300), (6, 2, 0, 512), (6, 3, 2, 0), (6, 11, 2, 5), (7, 1, 2, 5), (8, 1, 0, 4), (8, 2, 0, 200), (8, 3, 2, 1), (8, 11, 2, 0), (8, 19, 2, 0), (8, 27, 2, 2), (8, 77, 2, 3), (8, 87, 2, 5), (8, 91, 2, 7), (8, 96, 2, 6), (8, 111, 2, 4), (9, 1, 0, 4), (9, 2, 0, 200), (9, 3, 0, 16), (9, 4, 0, 16), (9, 5, 0, 24), (9, 6, 0, 24), (9, 7, 0, 24), (9, 8, 0, 24), (9, 9, 0, 24), (9, 10, 0, 918), (9, 11, 0, 16), (9, 12, 0, 16), (9, 13, 0, 24), (9, 14, 0, 24), (9, 15, 0, 24), (9, 16, 0, 24), (9, 17, 0, 24), (9, 18, 0, 24), (9, 19, 0, 16), (9, 20, 0, 16), (9, 21, 0, 16), (9, 22, 0, 16), (9, 23, 0, 16), (9, 24, 0, 24), (9, 25, 0, 24), (9, 26, 0, 24), (9, 27, 0, 18), (9, 28, 0, 17), (9, 29, 0, 17), (9, 30, 0, 17), (9, 31, 0, 301), (9, 32, 0, 301), (9, 33, 0, 24), (9, 34, 0, 24), (9, 35, 0, 24)]
def zKoB (i c o : Nat) (q : Nat × Nat) : Bool := if zKl.getD i (9, 0) = (2, c) then decide (zKl.getD (i + o) (9, 0) = q) else true
theorem zKo_a : zKoL.all (fun e => (List.range 159).all (fun i => zKoB i e.1 e.2.1 e.2.2)) = true := by decide +kernel
set_option maxRecDepth 20000 in
theorem zKo {a : Int} {c o t l : Nat} (h : zKT a = (2, c)) (he : (c, o, t, l) ∈ zKoL) : zKT (a + o) = (t, l) := by
  have h0 := List.all_eq_true.mp zKo_a _ he
  match a, h with
  | .ofNat i, h =>
    have hi : i < 159 := by
      rcases Nat.lt_or_ge i 159 with q | q
      · exact q
      · exfalso
        have : zKT (Int.ofNat i) = (9, 0) := by
          show zKl.getD i (9, 0) = (9, 0)
          rw [List.getD_eq_getElem?_getD, List.getElem?_eq_none (Nat.le_trans (by decide) q)]
          rfl
        rw [this] at h
        cases h
    have h1 := List.all_eq_true.mp h0 i (List.mem_range.mpr hi)
    unfold zKoB at h1
    have h2 : zKl.getD i (9, 0) = (2, c) := h
    dsimp only at h1
    rw [if_pos h2] at h1
    exact of_decide_eq_true h1
  | .negSucc i, h => cases h
theorem zLay_arr {M : zM} {a i x : Int} (hL : zLay M) (hk : (zKT a).1 ≠ 2) : zLay (zset M a i x) := by
  intro b c j o hb hr
  rw [show zset M a i x b j = M b j from congrFun (zset_row M a i x b (fun e => hk (by rw [← e, hb]))) j]
  exact hL b c j o hb hr
theorem zLay_fld {M : zM} {a x : Int} {c j : Nat} (hL : zLay M) (hk : zKT a = (2, c)) (hn : zrf c j = none) : zLay (zset M a j x) := by
  intro b c' j' o hb hr
  unfold zset
  rw [if_neg]
  · exact hL b c' j' o hb hr
  · rintro ⟨rfl, e2⟩
    rw [hk] at hb
    cases hb
    have : j' = j := by omega
    subst this
    rw [hn] at hr
    cases hr
theorem zLay_copy {M : zM} {q sp d dp m : Int} (hL : zLay M) (hk : (zKT d).1 ≠ 2) : zLay (zcopy M q sp d dp m) := by
  intro b c j o hb hr
  unfold zcopy
  rw [if_neg]
  · exact hL b c j o hb hr
  · rintro ⟨rfl, -⟩
    rw [hb] at hk
    exact hk rfl
theorem zsn {N : zM} {a i v b j x : Int} (h : b ≠ a) (hx : N b j = x) : zset N a i v b j = x := by unfold zset; rw [if_neg (fun q => h q.1)]; exact hx
theorem zsi {N : zM} {a i v b j x : Int} (h : j ≠ i) (hx : N b j = x) : zset N a i v b j = x := by unfold zset; rw [if_neg (fun q => h q.2)]; exact hx
theorem zsh {N : zM} {a i v : Int} : zset N a i v a i = v := by unfold zset; rw [if_pos ⟨rfl, rfl⟩]
section ZS
variable {k : Nat} {Q Q' : Int → zM → Prop} {pc nx j : Nat} {L L' st r : List zV} {M M' : zM} {x y a v : Int}
theorem zS_fo (hl : zle L L') (h : zS k Q pc L st M) : zS k Q pc L' st M := fun hL n => zG_fo hl (h hL n)
theorem zS_mono (hq : ∀ x M', Q x M' → Q' x M') (h : zS k Q pc L st M) : zS k Q' pc L st M := fun hL n => zG_mono (fun _ _ _ z => ⟨z.1, z.2.1, hq _ _ z.2.2⟩) (h hL n)
theorem zF_mono {As : List zV} (h : zF k Q As M) (hq : ∀ x M', Q x M' → Q' x M') : zF k Q' As M := zS_mono hq h
theorem zs_ic (hc : zc k pc = (0, nx, [], v)) (h : zS k Q nx L ((0, v) :: st) M) : zS k Q pc L (st) M := fun hL n => zG_of (by
  rw [hc]
  exact And.intro trivial (h hL n))
theorem zs_lc (hc : zc k pc = (1, nx, [], v)) (h : zS k Q nx L ((1, v) :: st) M) : zS k Q pc L (st) M := fun hL n => zG_of (by
  rw [hc]
  exact And.intro trivial (h hL n))
theorem zs_iload (hc : zc k pc = (2, nx, [j], v)) (hl : znth L j = some (0, x)) (h : zS k Q nx L ((0, x) :: st) M) : zS k Q pc L (st) M := fun hL n => zG_of (by
  rw [hc]
  show (match (generalizing := false) (match (generalizing := false) znth L (j) with | some (0, x) => some (True, L, (0, x) :: st, n, M) | _ => none : Option (Prop × List zV × List zV × Int × zM)) with | some (g, L2, st2, n2, M2) => g ∧ zG k n _ nx L2 st2 n2 M2 | none => False)
  rw [hl]
  exact And.intro trivial (h hL n))
theorem zs_lload (hc : zc k pc = (3, nx, [j], v)) (hl : znth L j = some (1, x)) (h : zS k Q nx L ((1, x) :: st) M) : zS k Q pc L (st) M := fun hL n => zG_of (by
  rw [hc]
  show (match (generalizing := false) (match (generalizing := false) znth L (j) with | some (1, x) => some (True, L, (1, x) :: st, n, M) | _ => none : Option (Prop × List zV × List zV × Int × zM)) with | some (g, L2, st2, n2, M2) => g ∧ zG k n _ nx L2 st2 n2 M2 | none => False)
  rw [hl]
  exact And.intro trivial (h hL n))
theorem zs_aload (hc : zc k pc = (4, nx, [j], v)) (hl : znth L j = some (2, x)) (h0 : 0 < x) (h : zS k Q nx L ((2, x) :: st) M) : zS k Q pc L (st) M := fun hL n => zG_of (by
  rw [hc]
  show (match (generalizing := false) (match (generalizing := false) znth L (j) with | some (2, x) => some (0 < x, L, (2, x) :: st, n, M) | _ => none : Option (Prop × List zV × List zV × Int × zM)) with | some (g, L2, st2, n2, M2) => g ∧ zG k n _ nx L2 st2 n2 M2 | none => False)
  rw [hl]
  exact And.intro h0 (h hL n))
theorem zs_istore (hc : zc k pc = (5, nx, [j], v)) {w : zV} (hl : znth L j = some w) (h : zS k Q nx (zst1 L j (0, x)) (r) M) : zS k Q pc L ((0, x) :: r) M := fun hL n => zG_of (by
  rw [hc]
  show (match (generalizing := false) (match (generalizing := false) znth L (j), (((0, x) :: r) : List zV) with | some _, (0, x) :: r => some (True, zst1 L (j) (0, x), r, n, M) | _, _ => none : Option (Prop × List zV × List zV × Int × zM)) with | some (g, L2, st2, n2, M2) => g ∧ zG k n _ nx L2 st2 n2 M2 | none => False)
  rw [hl]
  exact And.intro trivial (h hL n))
theorem zs_lstore (hc : zc k pc = (6, nx, [j], v)) {w : zV} (hl : znth L (j + 1) = some w) (h : zS k Q nx (zst2 L j (1, x)) (r) M) : zS k Q pc L ((1, x) :: r) M := fun hL n => zG_of (by
  rw [hc]
  show (match (generalizing := false) (match (generalizing := false) znth L (j + 1), (((1, x) :: r) : List zV) with | some _, (1, x) :: r => some (True, zst2 L (j) (1, x), r, n, M) | _, _ => none : Option (Prop × List zV × List zV × Int × zM)) with | some (g, L2, st2, n2, M2) => g ∧ zG k n _ nx L2 st2 n2 M2 | none => False)
  rw [hl]
  exact And.intro trivial (h hL n))
theorem zs_astore (hc : zc k pc = (7, nx, [j], v)) {w : zV} (hl : znth L j = some w) (h0 : 0 < x) (h : zS k Q nx (zst1 L j (2, x)) (r) M) : zS k Q pc L ((2, x) :: r) M := fun hL n => zG_of (by
  rw [hc]
  show (match (generalizing := false) (match (generalizing := false) znth L (j), (((2, x) :: r) : List zV) with | some _, (2, x) :: r => some (0 < x, zst1 L (j) (2, x), r, n, M) | _, _ => none : Option (Prop × List zV × List zV × Int × zM)) with | some (g, L2, st2, n2, M2) => g ∧ zG k n _ nx L2 st2 n2 M2 | none => False)
  rw [hl]
  exact And.intro h0 (h hL n))
theorem zs_iinc (hc : zc k pc = (8, nx, [j], v)) (hl : znth L j = some (0, x)) (h : zS k Q nx (zst1 L j (0, zw (x + v))) (st) M) : zS k Q pc L (st) M := fun hL n => zG_of (by
  rw [hc]
  show (match (generalizing := false) (match (generalizing := false) znth L (j) with | some (0, x) => some (True, zst1 L (j) (0, zw (x + v)), st, n, M) | _ => none : Option (Prop × List zV × List zV × Int × zM)) with | some (g, L2, st2, n2, M2) => g ∧ zG k n _ nx L2 st2 n2 M2 | none => False)
  rw [hl]
  exact And.intro trivial (h hL n))
theorem zs_iadd (hc : zc k pc = (50, nx, [], v)) (h : zS k Q nx L ((0, zw (x + y)) :: r) M) : zS k Q pc L ((0, y) :: (0, x) :: r) M := fun hL n => zG_of (by
  rw [hc]
  exact And.intro trivial (h hL n))
theorem zs_isub (hc : zc k pc = (51, nx, [], v)) (h : zS k Q nx L ((0, zw (x - y)) :: r) M) : zS k Q pc L ((0, y) :: (0, x) :: r) M := fun hL n => zG_of (by
  rw [hc]
  exact And.intro trivial (h hL n))
theorem zs_imul (hc : zc k pc = (52, nx, [], v)) (h : zS k Q nx L ((0, zw (x * y)) :: r) M) : zS k Q pc L ((0, y) :: (0, x) :: r) M := fun hL n => zG_of (by
  rw [hc]
  exact And.intro trivial (h hL n))
theorem zs_iand (hc : zc k pc = (53, nx, [], v)) (h : zS k Q nx L ((0, zand x y) :: r) M) : zS k Q pc L ((0, y) :: (0, x) :: r) M := fun hL n => zG_of (by
  rw [hc]
  exact And.intro trivial (h hL n))
theorem zs_ior (hc : zc k pc = (54, nx, [], v)) (h : zS k Q nx L ((0, zor x y) :: r) M) : zS k Q pc L ((0, y) :: (0, x) :: r) M := fun hL n => zG_of (by
  rw [hc]
  exact And.intro trivial (h hL n))
theorem zs_ixor (hc : zc k pc = (55, nx, [], v)) (h : zS k Q nx L ((0, zxor x y) :: r) M) : zS k Q pc L ((0, y) :: (0, x) :: r) M := fun hL n => zG_of (by
  rw [hc]
  exact And.intro trivial (h hL n))
theorem zs_ishl (hc : zc k pc = (56, nx, [], v)) (h : zS k Q nx L ((0, zshl x y) :: r) M) : zS k Q pc L ((0, y) :: (0, x) :: r) M := fun hL n => zG_of (by
  rw [hc]
  exact And.intro trivial (h hL n))
theorem zs_ishr (hc : zc k pc = (57, nx, [], v)) (h : zS k Q nx L ((0, zshr x y) :: r) M) : zS k Q pc L ((0, y) :: (0, x) :: r) M := fun hL n => zG_of (by
  rw [hc]
  exact And.intro trivial (h hL n))
theorem zs_iushr (hc : zc k pc = (58, nx, [], v)) (h : zS k Q nx L ((0, zushr x y) :: r) M) : zS k Q pc L ((0, y) :: (0, x) :: r) M := fun hL n => zG_of (by
  rw [hc]
  exact And.intro trivial (h hL n))
theorem zs_ladd (hc : zc k pc = (60, nx, [], v)) (h : zS k Q nx L ((1, zW (x + y)) :: r) M) : zS k Q pc L ((1, y) :: (1, x) :: r) M := fun hL n => zG_of (by
  rw [hc]
  exact And.intro trivial (h hL n))
theorem zs_lsub (hc : zc k pc = (61, nx, [], v)) (h : zS k Q nx L ((1, zW (x - y)) :: r) M) : zS k Q pc L ((1, y) :: (1, x) :: r) M := fun hL n => zG_of (by
  rw [hc]
  exact And.intro trivial (h hL n))
theorem zs_lmul (hc : zc k pc = (62, nx, [], v)) (h : zS k Q nx L ((1, zW (x * y)) :: r) M) : zS k Q pc L ((1, y) :: (1, x) :: r) M := fun hL n => zG_of (by
  rw [hc]
  exact And.intro trivial (h hL n))
theorem zs_ineg (hc : zc k pc = (11, nx, [], v)) (h : zS k Q nx L ((0, zw (-x)) :: r) M) : zS k Q pc L ((0, x) :: r) M := fun hL n => zG_of (by
  rw [hc]
  exact And.intro trivial (h hL n))
theorem zs_i2l (hc : zc k pc = (12, nx, [], v)) (h : zS k Q nx L ((1, x) :: r) M) : zS k Q pc L ((0, x) :: r) M := fun hL n => zG_of (by
  rw [hc]
  exact And.intro trivial (h hL n))
theorem zs_lcmp (hc : zc k pc = (13, nx, [], v)) (h : zS k Q nx L ((0, zlcmp x y) :: r) M) : zS k Q pc L ((1, y) :: (1, x) :: r) M := fun hL n => zG_of (by
  rw [hc]
  exact And.intro trivial (h hL n))
theorem zs_dup0 (hc : zc k pc = (18, nx, [], v)) (h : zS k Q nx L ((0, x) :: (0, x) :: r) M) : zS k Q pc L ((0, x) :: r) M := fun hL n => zG_of (by
  rw [hc]
  exact And.intro trivial (h hL n))
theorem zs_dup2r (hc : zc k pc = (18, nx, [], v)) (h : zS k Q nx L ((2, x) :: (2, x) :: r) M) : zS k Q pc L ((2, x) :: r) M := fun hL n => zG_of (by
  rw [hc]
  exact And.intro trivial (h hL n))
theorem zs_dup2 (hc : zc k pc = (19, nx, [], v)) (h : zS k Q nx L ((0, x) :: (2, a) :: (0, x) :: (2, a) :: r) M) : zS k Q pc L ((0, x) :: (2, a) :: r) M := fun hL n => zG_of (by
  rw [hc]
  exact And.intro trivial (h hL n))
theorem zs_pop (hc : zc k pc = (20, nx, [], v)) (h : zS k Q nx L (r) M) : zS k Q pc L ((0, x) :: r) M := fun hL n => zG_of (by
  rw [hc]
  exact And.intro trivial (h hL n))
theorem zs_abs (hc : zc k pc = (42, nx, [], v)) (hg : zcats r ≤ 8 ∧ 1 ≤ zfr k ∧ 21 ≤ zlo k) (h : zS k Q nx L ((0, if 0 ≤ x then x else zw (0 - x)) :: r) M) : zS k Q pc L ((0, x) :: r) M := fun hL n => zG_of (by
  rw [hc]
  exact And.intro hg (h hL n))
theorem zs_getr {c o : Nat} {b : Int} (hc : zc k pc = (21, nx, [c, j], v)) (hk : zKT a = (2, c)) (ho : zrf c j = some o) (ht : zft c j = 2) (hb : a + o = b) (h : zS k Q nx L ((2, b) :: r) M) : zS k Q pc L ((2, a) :: r) M := fun hL n => zG_of (by
  rw [hc]
  refine And.intro hk ?_
  show zG k n _ nx L ((zft c j, M a j) :: r) n M
  rw [ht, hL a c j o hk ho, hb]
  exact h hL n)
theorem zs_getf {c t : Nat} {ji : Int} (hc : zc k pc = (21, nx, [c, j], v)) (hk : zKT a = (2, c)) (ht : zft c j = t) (hj : ((j : Nat) : Int) = ji) (hx : M a ji = x) (h : zS k Q nx L ((t, x) :: r) M) : zS k Q pc L ((2, a) :: r) M := fun hL n => zG_of (by
  rw [hc]
  refine And.intro hk ?_
  show zG k n _ nx L ((zft c j, M a j) :: r) n M
  rw [ht, hj, hx]
  exact h hL n)
theorem zs_puti {c : Nat} {ji : Int} (hc : zc k pc = (22, nx, [c, j], v)) (hk : zKT a = (2, c)) (hn : zrf c j = none) (hj : ((j : Nat) : Int) = ji) (h : zS k Q nx L r (zset M a ji x)) : zS k Q pc L ((0, x) :: (2, a) :: r) M := fun hL n => zG_of (by
  rw [hc]
  refine And.intro hk ?_
  show zG k n _ nx L r n (zset M a j x)
  have hL2 := zLay_fld (x := x) hL hk hn
  rw [hj] at hL2 ⊢
  exact h hL2 n)
theorem zs_putz {c : Nat} {ji : Int} (hc : zc k pc = (23, nx, [c, j], v)) (hk : zKT a = (2, c)) (hn : zrf c j = none) (hj : ((j : Nat) : Int) = ji) (h01 : x = 0 ∨ x = 1) (h : zS k Q nx L r (zset M a ji x)) : zS k Q pc L ((0, x) :: (2, a) :: r) M := fun hL n => zG_of (by
  rw [hc]
  refine And.intro (And.intro hk h01) ?_
  show zG k n _ nx L r n (zset M a j x)
  have hL2 := zLay_fld (x := x) hL hk hn
  rw [hj] at hL2 ⊢
  exact h hL2 n)
theorem zs_putl {c : Nat} {ji : Int} (hc : zc k pc = (24, nx, [c, j], v)) (hk : zKT a = (2, c)) (hn : zrf c j = none) (hj : ((j : Nat) : Int) = ji) (h : zS k Q nx L r (zset M a ji x)) : zS k Q pc L ((1, x) :: (2, a) :: r) M := fun hL n => zG_of (by
  rw [hc]
  refine And.intro hk ?_
  show zG k n _ nx L r n (zset M a j x)
  have hL2 := zLay_fld (x := x) hL hk hn
  rw [hj] at hL2 ⊢
  exact h hL2 n)
theorem zs_putr {c : Nat} {ji : Int} (hc : zc k pc = (25, nx, [c, j], v)) (hk : zKT a = (2, c)) (hn : zrf c j = none) (hj : ((j : Nat) : Int) = ji) (h0 : 0 < x) (h : zS k Q nx L r (zset M a ji x)) : zS k Q pc L ((2, x) :: (2, a) :: r) M := fun hL n => zG_of (by
  rw [hc]
  refine And.intro (And.intro hk h0) ?_
  show zG k n _ nx L r n (zset M a j x)
  have hL2 := zLay_fld (x := x) hL hk hn
  rw [hj] at hL2 ⊢
  exact h hL2 n)
theorem zs_iald {i : Int} {l : Nat} (hc : zc k pc = (26, nx, [], v)) (hk : zKT a = (0, l)) (hi : 0 ≤ i ∧ i < l) (hx : M a i = x) (h : zS k Q nx L ((0, x) :: r) M) : zS k Q pc L ((0, i) :: (2, a) :: r) M := fun hL n => zG_of (by
  rw [hc]
  refine And.intro (And.intro (by rw [hk]) (And.intro hi.1 (by rw [hk]; exact hi.2))) ?_
  show zG k n _ nx L ((0, M a i) :: r) n M
  rw [hx]
  exact h hL n)
theorem zs_iast {i : Int} {l : Nat} (hc : zc k pc = (27, nx, [], v)) (hk : zKT a = (0, l)) (hi : 0 ≤ i ∧ i < l) (h : zS k Q nx L r (zset M a i x)) : zS k Q pc L ((0, x) :: (0, i) :: (2, a) :: r) M := fun hL n => zG_of (by
  rw [hc]
  exact And.intro (And.intro (by rw [hk]) (And.intro hi.1 (by rw [hk]; exact hi.2))) (h (zLay_arr hL (by rw [hk]; exact (show (0 : Nat) ≠ 2 by decide))) n))
theorem zs_aald {i : Int} {l : Nat} (hc : zc k pc = (28, nx, [], v)) (hk : zKT a = (1, l)) (hi : 0 ≤ i ∧ i < l) (hx : M a i = x) (h : zS k Q nx L ((2, x) :: r) M) : zS k Q pc L ((0, i) :: (2, a) :: r) M := fun hL n => zG_of (by
  rw [hc]
  refine And.intro (And.intro (by rw [hk]) (And.intro hi.1 (by rw [hk]; exact hi.2))) ?_
  show zG k n _ nx L ((2, M a i) :: r) n M
  rw [hx]
  exact h hL n)
theorem zs_aast {i : Int} {l : Nat} (hc : zc k pc = (29, nx, [], v)) (hk : zKT a = (1, l)) (hi : 0 ≤ i ∧ i < l) (hx : zKT x = (2, 1)) (h : zS k Q nx L r (zset M a i x)) : zS k Q pc L ((2, x) :: (0, i) :: (2, a) :: r) M := fun hL n => zG_of (by
  rw [hc]
  exact And.intro (And.intro (by rw [hk]) (And.intro hi.1 (And.intro (by rw [hk]; exact hi.2) hx))) (h (zLay_arr hL (by rw [hk]; exact (show (1 : Nat) ≠ 2 by decide))) n))
theorem zs_alen {l : Nat} {li : Int} (hc : zc k pc = (30, nx, [], v)) (hk : zKT a = (0, l)) (hli : ((l : Nat) : Int) = li) (h : zS k Q nx L ((0, li) :: r) M) : zS k Q pc L ((2, a) :: r) M := fun hL n => zG_of (by
  rw [hc]
  refine And.intro (show (zKT a).1 = 0 by rw [hk]) ?_
  show zG k n _ nx L ((0, ((zKT a).2 : Int)) :: r) n M
  rw [hk]
  dsimp only
  rw [hli]
  exact h hL n)
theorem zs_acopy {q sp d dp m : Int} {l1 l2 : Nat} (hc : zc k pc = (40, nx, [], v)) (hq : zKT q = (0, l1)) (hd : zKT d = (0, l2)) (hg : 0 ≤ sp ∧ 0 ≤ dp ∧ 0 ≤ m ∧ sp + m ≤ l1 ∧ dp + m ≤ l2) (hs : zcats r ≤ 8 ∧ 1 ≤ zfr k ∧ 26 ≤ zlo k) (h : zS k Q nx L r (zcopy M q sp d dp m)) : zS k Q pc L ((0, m) :: (0, dp) :: (2, d) :: (0, sp) :: (2, q) :: r) M := fun hL n => zG_of (by
  rw [hc]
  exact And.intro (show (zKT q).1 = 0 ∧ (zKT d).1 = 0 ∧ 0 ≤ sp ∧ 0 ≤ dp ∧ 0 ≤ m ∧ sp + m ≤ (zKT q).2 ∧ dp + m ≤ (zKT d).2 ∧ zcats r ≤ 8 ∧ 1 ≤ zfr k ∧ 26 ≤ zlo k by rw [hq, hd]; exact ⟨rfl, rfl, hg.1, hg.2.1, hg.2.2.1, hg.2.2.2.1, hg.2.2.2.2, hs⟩) (h (zLay_copy hL (by rw [hd]; exact (show (0 : Nat) ≠ 2 by decide))) n))
theorem zs_goto {tgt : Nat} (hc : zc k pc = (17, nx, [tgt], v)) (h : zS k Q tgt L st M) : zS k Q pc L st M := fun hL n => zG_of (by rw [hc]; exact h hL n)
theorem zs_ifnull {tgt : Nat} (hc : zc k pc = (16, nx, [tgt], v)) (h1 : x ≤ 0 → zS k Q tgt L r M) (h2 : ¬ x ≤ 0 → zS k Q nx L r M) : zS k Q pc L ((2, x) :: r) M := fun hL n => zG_of (by rw [hc]; exact And.intro (fun q => h1 q hL n) (fun q => h2 q hL n))
theorem zs_iret (hc : zc k pc = (35, nx, [], v)) (h : Q x M) : zS k Q pc L [(0, x)] M := fun hL n => zG_of (by rw [hc]; exact And.intro rfl (And.intro hL h))
theorem zs_zret (hc : zc k pc = (36, nx, [], v)) (h01 : x = 0 ∨ x = 1) (h : Q x M) : zS k Q pc L [(0, x)] M := fun hL n => zG_of (by rw [hc]; exact And.intro h01 (And.intro rfl (And.intro hL h)))
theorem zs_lret (hc : zc k pc = (37, nx, [], v)) (h : Q x M) : zS k Q pc L [(1, x)] M := fun hL n => zG_of (by rw [hc]; exact And.intro rfl (And.intro hL h))
theorem zs_vret (hc : zc k pc = (38, nx, [], v)) (h : Q 0 M) : zS k Q pc L [] M := fun hL n => zG_of (by rw [hc]; exact And.intro rfl (And.intro hL h))
theorem zs_sw {ts : List Nat} {d : Nat} (hc : zc k pc = (39, nx, d :: ts, v)) (h : zsw (fun t => zS k Q t L r M) x v ts d) : zS k Q pc L ((0, x) :: r) M := fun hL n => zG_of (by rw [hc]; exact zsw_mono (fun t q => q hL n) x ts v d h)
theorem zs_call {k' na kd : Nat} {As : List zV} (hc : zc k pc = (34, nx, [k', na, kd], v)) (hp : zpp na [] st = some (As, r)) (hr : zrecv kd k' As) (hg : zcats r ≤ 8 ∧ (zspr As).length ≤ zml k' ∧ zfr k' + 1 ≤ zfr k ∧ 8 + (zml k' + 11) + zlo k' ≤ zlo k) (hm : zmc k' = 0) (h : zF k' (fun x M' => zS k Q nx L (zpush (zrt k') x r) M') As M) : zS k Q pc L st M := fun hL n => zG_of (by
  rw [hc]
  show zcall k n (zG k n _) (zent zG) nx k' na kd L st n M
  unfold zcall
  rw [hp]
  refine And.intro (And.intro hr (And.intro hg.1 (And.intro hg.2.1 (And.intro hg.2.2.1 (And.intro hg.2.2.2 ?_))))) ?_
  · unfold zfitc; rw [hm]; trivial
  · refine zG_mono (fun x n' M' q => ?_) (h hL n)
    obtain ⟨q1, q2, q3⟩ := q
    subst q1
    refine And.intro ?_ (q3 q2 n')
    unfold zal
    rw [hm])
theorem zs_icmp_eq {tgt : Nat} (hc : zc k pc = (70, nx, [tgt], v)) (h1 : x = y → zS k Q tgt L r M) (h2 : ¬ x = y → zS k Q nx L r M) : zS k Q pc L ((0, y) :: (0, x) :: r) M := fun hL n => zG_of (by rw [hc]; exact And.intro (fun q => h1 q hL n) (fun q => h2 q hL n))
theorem zs_if_eq {tgt : Nat} (hc : zc k pc = (80, nx, [tgt], v)) (h1 : x = 0 → zS k Q tgt L r M) (h2 : ¬ x = 0 → zS k Q nx L r M) : zS k Q pc L ((0, x) :: r) M := fun hL n => zG_of (by rw [hc]; exact And.intro (fun q => h1 q hL n) (fun q => h2 q hL n))
theorem zs_icmp_ne {tgt : Nat} (hc : zc k pc = (71, nx, [tgt], v)) (h1 : ¬ x = y → zS k Q tgt L r M) (h2 : x = y → zS k Q nx L r M) : zS k Q pc L ((0, y) :: (0, x) :: r) M := fun hL n => zG_of (by rw [hc]; exact And.intro (fun q => h1 q hL n) (fun q => h2 q hL n))
theorem zs_if_ne {tgt : Nat} (hc : zc k pc = (81, nx, [tgt], v)) (h1 : ¬ x = 0 → zS k Q tgt L r M) (h2 : x = 0 → zS k Q nx L r M) : zS k Q pc L ((0, x) :: r) M := fun hL n => zG_of (by rw [hc]; exact And.intro (fun q => h1 q hL n) (fun q => h2 q hL n))
theorem zs_icmp_lt {tgt : Nat} (hc : zc k pc = (72, nx, [tgt], v)) (h1 : x < y → zS k Q tgt L r M) (h2 : ¬ x < y → zS k Q nx L r M) : zS k Q pc L ((0, y) :: (0, x) :: r) M := fun hL n => zG_of (by rw [hc]; exact And.intro (fun q => h1 q hL n) (fun q => h2 q hL n))
theorem zs_if_lt {tgt : Nat} (hc : zc k pc = (82, nx, [tgt], v)) (h1 : x < 0 → zS k Q tgt L r M) (h2 : ¬ x < 0 → zS k Q nx L r M) : zS k Q pc L ((0, x) :: r) M := fun hL n => zG_of (by rw [hc]; exact And.intro (fun q => h1 q hL n) (fun q => h2 q hL n))
theorem zs_icmp_ge {tgt : Nat} (hc : zc k pc = (73, nx, [tgt], v)) (h1 : ¬ x < y → zS k Q tgt L r M) (h2 : x < y → zS k Q nx L r M) : zS k Q pc L ((0, y) :: (0, x) :: r) M := fun hL n => zG_of (by rw [hc]; exact And.intro (fun q => h1 q hL n) (fun q => h2 q hL n))
theorem zs_if_ge {tgt : Nat} (hc : zc k pc = (83, nx, [tgt], v)) (h1 : ¬ x < 0 → zS k Q tgt L r M) (h2 : x < 0 → zS k Q nx L r M) : zS k Q pc L ((0, x) :: r) M := fun hL n => zG_of (by rw [hc]; exact And.intro (fun q => h1 q hL n) (fun q => h2 q hL n))
theorem zs_icmp_gt {tgt : Nat} (hc : zc k pc = (74, nx, [tgt], v)) (h1 : y < x → zS k Q tgt L r M) (h2 : ¬ y < x → zS k Q nx L r M) : zS k Q pc L ((0, y) :: (0, x) :: r) M := fun hL n => zG_of (by rw [hc]; exact And.intro (fun q => h1 q hL n) (fun q => h2 q hL n))
theorem zs_if_gt {tgt : Nat} (hc : zc k pc = (84, nx, [tgt], v)) (h1 : 0 < x → zS k Q tgt L r M) (h2 : ¬ 0 < x → zS k Q nx L r M) : zS k Q pc L ((0, x) :: r) M := fun hL n => zG_of (by rw [hc]; exact And.intro (fun q => h1 q hL n) (fun q => h2 q hL n))
theorem zs_icmp_le {tgt : Nat} (hc : zc k pc = (75, nx, [tgt], v)) (h1 : ¬ y < x → zS k Q tgt L r M) (h2 : y < x → zS k Q nx L r M) : zS k Q pc L ((0, y) :: (0, x) :: r) M := fun hL n => zG_of (by rw [hc]; exact And.intro (fun q => h1 q hL n) (fun q => h2 q hL n))
theorem zs_if_le {tgt : Nat} (hc : zc k pc = (85, nx, [tgt], v)) (h1 : ¬ 0 < x → zS k Q tgt L r M) (h2 : 0 < x → zS k Q nx L r M) : zS k Q pc L ((0, x) :: r) M := fun hL n => zG_of (by rw [hc]; exact And.intro (fun q => h1 q hL n) (fun q => h2 q hL n))
end ZS
