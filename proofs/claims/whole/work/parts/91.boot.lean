/-! an executor of the clean machine, for the constructors -/
def zgb (k : Nat) (n0 : Int) (i : zI) (L st : List zV) (n : Int) (M : zM) : Bool := match i.1 with
  | 0 => true
  | 1 => true
  | 2 => true
  | 5 => true
  | 8 => true
  | 18 => true
  | 50 => true
  | 51 => true
  | 52 => true
  | 53 => true
  | 54 => true
  | 55 => true
  | 56 => true
  | 57 => true
  | 58 => true
  | 4 => match znth L (zo i 0) with | some (2, x) => decide (0 < x) | _ => false
  | 21 => match st with | (2, a) :: _ => decide (zKT a = (2, zo i 0)) | _ => false
  | 22 => match st with | (0, _) :: (2, a) :: _ => decide (zKT a = (2, zo i 0)) | _ => false
  | 23 => match st with | (0, x) :: (2, a) :: _ => decide (zKT a = (2, zo i 0)) && decide (x = 0 ∨ x = 1) | _ => false
  | 24 => match st with | (1, _) :: (2, a) :: _ => decide (zKT a = (2, zo i 0)) | _ => false
  | 25 => match st with | (2, x) :: (2, a) :: _ => decide (zKT a = (2, zo i 0)) && decide (0 < x) | _ => false
  | 27 => match st with | (0, _) :: (0, j) :: (2, a) :: _ => decide ((zKT a).1 = 0 ∧ 0 ≤ j ∧ j < (zKT a).2) | _ => false
  | 29 => match st with | (2, x) :: (0, j) :: (2, a) :: _ => decide ((zKT a).1 = 1 ∧ 0 ≤ j ∧ j < (zKT a).2 ∧ zKT x = (2, 1)) | _ => false
  | 30 => match st with | (2, a) :: _ => decide ((zKT a).1 = 0) | _ => false
  | 31 => decide (zKT (n + 1) = (2, zo i 0) ∧ n + 1 ≤ n0 + zmc k ∧ zsl (n + 1) ≤ zsl n0 + zms k)
  | 32 => match st with | (0, x) :: _ => decide (zKT (n + 1) = (0, x.toNat) ∧ 0 ≤ x ∧ n + 1 ≤ n0 + zmc k ∧ zsl (n + 1) ≤ zsl n0 + zms k) | _ => false
  | 33 => match st with | (0, x) :: _ => decide (zKT (n + 1) = (1, x.toNat) ∧ 0 ≤ x ∧ n + 1 ≤ n0 + zmc k ∧ zsl (n + 1) ≤ zsl n0 + zms k) | _ => false
  | 40 => match st with | (0, m) :: (0, dp) :: (2, d) :: (0, sp) :: (2, q) :: r => decide ((zKT q).1 = 0 ∧ (zKT d).1 = 0 ∧ 0 ≤ sp ∧ 0 ≤ dp ∧ 0 ≤ m ∧ sp + m ≤ (zKT q).2 ∧ dp + m ≤ (zKT d).2 ∧ zcats r ≤ 8 ∧ 1 ≤ zfr k ∧ 26 ≤ zlo k) | _ => false
  | 41 => match st with | (2, a) :: r => decide (0 < a ∧ zcats r ≤ 8 ∧ 1 ≤ zfr k ∧ 20 ≤ zlo k) | _ => false
  | _ => false
theorem zgb_ok {k : Nat} {n0 : Int} {i : zI} {L st : List zV} {n : Int} {M : zM} {g : Prop} {L' st' : List zV} {n' : Int} {M' : zM} (h : zgb k n0 i L st n M = true) (hs : zstep k n0 i L st n M = some (g, L', st', n', M')) : g := by
  obtain ⟨op, nx, os, v⟩ := i
  unfold zgb at h
  dsimp only at h
  split at h
  all_goals (try (cases h; done))
  all_goals (try (cases hs; trivial))
  all_goals (try (cases hs; exact of_decide_eq_true h))
  all_goals (try (split at h <;> first | (cases hs; exact of_decide_eq_true h) | (cases hs; rw [Bool.and_eq_true] at h; exact ⟨of_decide_eq_true h.1, of_decide_eq_true h.2⟩) | (cases h; done)))
  · have hs : (match (generalizing := false) znth L (zo (2, nx, os, v) 0) with | some (0, x) => some (True, L, (0, x) :: st, n, M) | _ => none) = some (g, L', st', n', M') := hs
    split at hs <;> cases hs; trivial
  · have hs : (match (generalizing := false) znth L (zo (5, nx, os, v) 0), st with | some _, (0, x) :: r => some (True, zst1 L (zo (5, nx, os, v) 0) (0, x), r, n, M) | _, _ => none) = some (g, L', st', n', M') := hs
    split at hs <;> cases hs; trivial
  · have hs : (match (generalizing := false) znth L (zo (8, nx, os, v) 0) with | some (0, x) => some (True, zst1 L (zo (8, nx, os, v) 0) (0, zw (x + v)), st, n, M) | _ => none) = some (g, L', st', n', M') := hs
    split at hs <;> cases hs; trivial
  · have hs : (match (generalizing := false) st with | (0, x) :: r => some (True, L, (0, x) :: (0, x) :: r, n, M) | (2, x) :: r => some (True, L, (2, x) :: (2, x) :: r, n, M) | _ => none) = some (g, L', st', n', M') := hs
    split at hs <;> cases hs <;> trivial
  · have hs : (match (generalizing := false) st with | (0, y) :: (0, x) :: r => some (True, L, (0, zw (x + y)) :: r, n, M) | _ => none) = some (g, L', st', n', M') := hs
    split at hs <;> cases hs; trivial
  · have hs : (match (generalizing := false) st with | (0, y) :: (0, x) :: r => some (True, L, (0, zw (x - y)) :: r, n, M) | _ => none) = some (g, L', st', n', M') := hs
    split at hs <;> cases hs; trivial
  · have hs : (match (generalizing := false) st with | (0, y) :: (0, x) :: r => some (True, L, (0, zw (x * y)) :: r, n, M) | _ => none) = some (g, L', st', n', M') := hs
    split at hs <;> cases hs; trivial
  · have hs : (match (generalizing := false) st with | (0, y) :: (0, x) :: r => some (True, L, (0, zand x y) :: r, n, M) | _ => none) = some (g, L', st', n', M') := hs
    split at hs <;> cases hs; trivial
  · have hs : (match (generalizing := false) st with | (0, y) :: (0, x) :: r => some (True, L, (0, zor x y) :: r, n, M) | _ => none) = some (g, L', st', n', M') := hs
    split at hs <;> cases hs; trivial
  · have hs : (match (generalizing := false) st with | (0, y) :: (0, x) :: r => some (True, L, (0, zxor x y) :: r, n, M) | _ => none) = some (g, L', st', n', M') := hs
    split at hs <;> cases hs; trivial
  · have hs : (match (generalizing := false) st with | (0, y) :: (0, x) :: r => some (True, L, (0, zshl x y) :: r, n, M) | _ => none) = some (g, L', st', n', M') := hs
    split at hs <;> cases hs; trivial
  · have hs : (match (generalizing := false) st with | (0, y) :: (0, x) :: r => some (True, L, (0, zshr x y) :: r, n, M) | _ => none) = some (g, L', st', n', M') := hs
    split at hs <;> cases hs; trivial
  · have hs : (match (generalizing := false) st with | (0, y) :: (0, x) :: r => some (True, L, (0, zushr x y) :: r, n, M) | _ => none) = some (g, L', st', n', M') := hs
    split at hs <;> cases hs; trivial
  · have hs : (match (generalizing := false) znth L (zo (4, nx, os, v) 0) with | some (2, x) => some (0 < x, L, (2, x) :: st, n, M) | _ => none) = some (g, L', st', n', M') := hs
    split at h
    · rename_i e
      rw [e] at hs
      cases hs; exact of_decide_eq_true h
    · cases h
def zxb (i : zI) (st : List zV) : Option (Nat × List zV) := match i.1 with
  | 17 => some (zo i 0, st)
  | 70 => match st with | (0, y) :: (0, x) :: r => some (if x = y then zo i 0 else i.2.1, r) | _ => none
  | 71 => match st with | (0, y) :: (0, x) :: r => some (if x = y then i.2.1 else zo i 0, r) | _ => none
  | 72 => match st with | (0, y) :: (0, x) :: r => some (if x < y then zo i 0 else i.2.1, r) | _ => none
  | 73 => match st with | (0, y) :: (0, x) :: r => some (if x < y then i.2.1 else zo i 0, r) | _ => none
  | 74 => match st with | (0, y) :: (0, x) :: r => some (if y < x then zo i 0 else i.2.1, r) | _ => none
  | 75 => match st with | (0, y) :: (0, x) :: r => some (if y < x then i.2.1 else zo i 0, r) | _ => none
  | 80 => match st with | (0, x) :: r => some (if x = 0 then zo i 0 else i.2.1, r) | _ => none
  | 81 => match st with | (0, x) :: r => some (if x = 0 then i.2.1 else zo i 0, r) | _ => none
  | 82 => match st with | (0, x) :: r => some (if x < 0 then zo i 0 else i.2.1, r) | _ => none
  | 83 => match st with | (0, x) :: r => some (if x < 0 then i.2.1 else zo i 0, r) | _ => none
  | 84 => match st with | (0, x) :: r => some (if 0 < x then zo i 0 else i.2.1, r) | _ => none
  | 85 => match st with | (0, x) :: r => some (if 0 < x then i.2.1 else zo i 0, r) | _ => none
  | _ => none
theorem zxb_ok {k : Nat} {n0 : Int} {K : zJ} {C : zCt} {Q : zQ} {i : zI} {L st : List zV} {n : Int} {M : zM} {pc' : Nat} {r : List zV} (h : zxb i st = some (pc', r)) (hK : K pc' L r n M) : zwI k n0 K C Q i L st n M := by
  obtain ⟨op, nx, os, v⟩ := i
  unfold zxb at h
  dsimp only at h
  split at h
  · cases h; exact hK
  all_goals (try (split at h))
  all_goals (try (cases h; done))
  all_goals cases h
  · exact ⟨fun e => by (rw [if_pos e] at hK; exact hK), fun e => by (rw [if_neg e] at hK; exact hK)⟩
  · exact ⟨fun e => by (rw [if_neg e] at hK; exact hK), fun e => by (rw [if_pos e] at hK; exact hK)⟩
  · exact ⟨fun e => by (rw [if_pos e] at hK; exact hK), fun e => by (rw [if_neg e] at hK; exact hK)⟩
  · exact ⟨fun e => by (rw [if_neg e] at hK; exact hK), fun e => by (rw [if_pos e] at hK; exact hK)⟩
  · exact ⟨fun e => by (rw [if_pos e] at hK; exact hK), fun e => by (rw [if_neg e] at hK; exact hK)⟩
  · exact ⟨fun e => by (rw [if_neg e] at hK; exact hK), fun e => by (rw [if_pos e] at hK; exact hK)⟩
  · exact ⟨fun e => by (rw [if_pos e] at hK; exact hK), fun e => by (rw [if_neg e] at hK; exact hK)⟩
  · exact ⟨fun e => by (rw [if_neg e] at hK; exact hK), fun e => by (rw [if_pos e] at hK; exact hK)⟩
  · exact ⟨fun e => by (rw [if_pos e] at hK; exact hK), fun e => by (rw [if_neg e] at hK; exact hK)⟩
  · exact ⟨fun e => by (rw [if_neg e] at hK; exact hK), fun e => by (rw [if_pos e] at hK; exact hK)⟩
  · exact ⟨fun e => by (rw [if_pos e] at hK; exact hK), fun e => by (rw [if_neg e] at hK; exact hK)⟩
  · exact ⟨fun e => by (rw [if_neg e] at hK; exact hK), fun e => by (rw [if_pos e] at hK; exact hK)⟩
def zrv (i : zI) (st : List zV) : Option Int := match i.1 with
  | 35 => match st with | [(0, x)] => some x | _ => none
  | 36 => match st with | [(0, x)] => if x = 0 ∨ x = 1 then some x else none | _ => none
  | 37 => match st with | [(1, x)] => some x | _ => none
  | 38 => match st with | [] => some 0 | _ => none
  | _ => none
theorem zrv_ok {k : Nat} {n0 : Int} {K : zJ} {C : zCt} {Q : zQ} {i : zI} {L st : List zV} {n : Int} {M : zM} {x : Int} (h : zrv i st = some x) (hQ : Q x n M) : zwI k n0 K C Q i L st n M := by
  obtain ⟨op, nx, os, v⟩ := i
  unfold zrv at h
  dsimp only at h
  split at h
  all_goals (try (split at h))
  all_goals (try (cases h; done))
  · cases h; exact hQ
  · rename_i y
    by_cases e : y = 0 ∨ y = 1
    · rw [if_pos e] at h; cases h; exact ⟨e, hQ⟩
    · rw [if_neg e] at h; cases h
  · cases h; exact hQ
  · cases h; exact hQ
def zcb (k : Nat) (n0 : Int) (k' kind : Nat) (As r : List zV) (n : Int) : Bool :=
  (match kind, As with
  | 0, (2, a) :: _ => decide (zKT a = (2, zoc k'))
  | 1, _ => true
  | 2, (2, a) :: _ => decide (0 < a)
  | 3, (2, a) :: _ => decide (0 < a)
  | 4, _ => true
  | _, _ => false) && decide (zcats r ≤ 8 ∧ (zspr As).length ≤ zml k' ∧ zfr k' + 1 ≤ zfr k ∧ 8 + (zml k' + 11) + zlo k' ≤ zlo k) && (decide (zmc k' = 0) || decide (n + zmc k' ≤ n0 + zmc k ∧ zsl n + zms k' ≤ zsl n0 + zms k))
theorem zcb_ok {k : Nat} {n0 : Int} {k' kind : Nat} {As r : List zV} {n : Int} (h : zcb k n0 k' kind As r n = true) : zrecv kind k' As ∧ zcats r ≤ 8 ∧ (zspr As).length ≤ zml k' ∧ zfr k' + 1 ≤ zfr k ∧ 8 + (zml k' + 11) + zlo k' ≤ zlo k ∧ zfitc k n0 k' n := by
  unfold zcb at h
  rw [Bool.and_eq_true, Bool.and_eq_true] at h
  obtain ⟨⟨h1, h2⟩, h3⟩ := h
  have h2 := of_decide_eq_true h2
  refine ⟨?_, h2.1, h2.2.1, h2.2.2.1, h2.2.2.2, ?_⟩
  · unfold zrecv
    split at h1
    · have z := of_decide_eq_true h1; exact z
    · trivial
    · have z := of_decide_eq_true h1; exact z
    · have z := of_decide_eq_true h1; exact z
    · trivial
    · cases h1
  · unfold zfitc
    split
    · trivial
    · rename_i c e
      rw [Bool.or_eq_true] at h3
      rcases h3 with z | z
      · have := of_decide_eq_true z; omega
      · have := of_decide_eq_true z
        rw [e] at this; exact this
def zalb (k : Nat) (n n' : Int) : Bool := if zmc k = 0 then decide (n' = n) else decide (n' = n + (zmc k : Nat) ∧ zsl n' = zsl n + zms k)
theorem zalb_ok {k : Nat} {n n' : Int} (h : zalb k n n' = true) : zal k n n' := by
  unfold zalb at h
  unfold zal
  split
  · rename_i e
    rw [if_pos e] at h; exact of_decide_eq_true h
  · rename_i c e
    rw [if_neg (by omega)] at h
    have := of_decide_eq_true h
    rw [e] at this; exact this
def zxr : Nat → Nat → Int → Nat → Nat → List zV → List zV → Int → zM → Option (Nat × List zV × List zV × Int × zM)
  | 0, _, _, _, _, _, _, _, _ => none
  | f + 1, k, n0, stop, pc, L, st, n, M =>
    if pc = stop then some (pc, L, st, n, M) else
    if 35 ≤ (zc k pc).1 ∧ (zc k pc).1 ≤ 38 then some (pc, L, st, n, M) else
    if (zc k pc).1 = 34 then
      match zpp (zo (zc k pc) 1) [] st with
      | some (As, r) => if zcb k n0 (zo (zc k pc) 0) (zo (zc k pc) 2) As r n = true then
          match zxr f (zo (zc k pc) 0) n 99999 0 (zpad (zml (zo (zc k pc) 0)) (zspr As)) [] n M with
          | some (pc', _, st', n', M') => match zrv (zc (zo (zc k pc) 0) pc') st' with
            | some x => if zalb (zo (zc k pc) 0) n n' = true then zxr f k n0 stop (zc k pc).2.1 L (zpush (zrt (zo (zc k pc) 0)) x r) n' M' else none
            | none => none
          | none => none
        else none
      | none => none
    else match zxb (zc k pc) st with
      | some (pc', r) => zxr f k n0 stop pc' L r n M
      | none => if zgb k n0 (zc k pc) L st n M = true then
          match zstep k n0 (zc k pc) L st n M with
          | some (_, L', st', n', M') => zxr f k n0 stop (zc k pc).2.1 L' st' n' M'
          | none => none
        else none
theorem zwI_step {k : Nat} {n0 : Int} {K : zJ} {C : zCt} {Q : zQ} {i : zI} {L st : List zV} {n : Int} {M : zM} {g : Prop} {L' st' : List zV} {n' : Int} {M' : zM} (hg : zgb k n0 i L st n M = true) (hs : zstep k n0 i L st n M = some (g, L', st', n', M')) (hK : K i.2.1 L' st' n' M') : zwI k n0 K C Q i L st n M := by
  have hgg := zgb_ok hg hs
  have key : (match (generalizing := false) zstep k n0 i L st n M with | some (g, L2, st2, n2, M2) => g ∧ K i.2.1 L2 st2 n2 M2 | none => False) := by
    rw [hs]; exact ⟨hgg, hK⟩
  obtain ⟨op, nx, os, v⟩ := i
  unfold zgb at hg
  dsimp only at hg
  split at hg
  all_goals (first | exact key | cases hg)
theorem zxr_ok : ∀ (f k : Nat) (n0 : Int) (stop pc : Nat) (L st : List zV) (n : Int) (M : zM) (pc' : Nat) (L' st' : List zV) (n' : Int) (M' : zM), zxr f k n0 stop pc L st n M = some (pc', L', st', n', M') → ∀ Q, zG k n0 Q pc' L' st' n' M' → zG k n0 Q pc L st n M
  | 0, _, _, _, _, _, _, _, _, _, _, _, _, _, h => by cases h
  | f + 1, k, n0, stop, pc, L, st, n, M, pc', L', st', n', M', h => by
    intro Q hG
    unfold zxr at h
    by_cases a1 : pc = stop
    · rw [if_pos a1] at h; cases h; exact hG
    · rw [if_neg a1] at h
      by_cases a2 : 35 ≤ (zc k pc).1 ∧ (zc k pc).1 ≤ 38
      · rw [if_pos a2] at h; cases h; exact hG
      · rw [if_neg a2] at h
        by_cases a3 : (zc k pc).1 = 34
        · rw [if_pos a3] at h
          split at h
          · rename_i As r e1
            by_cases a4 : zcb k n0 (zo (zc k pc) 0) (zo (zc k pc) 2) As r n = true
            · rw [if_pos a4] at h
              split at h
              · rename_i p2 L2 s2 n2 M2 e2
                split at h
                · rename_i x e3
                  by_cases a5 : zalb (zo (zc k pc) 0) n n2 = true
                  · rw [if_pos a5] at h
                    refine zG_of ?_
                    have key : zcall k n0 (zG k n0 Q) (zent zG) (zc k pc).2.1 (zo (zc k pc) 0) (zo (zc k pc) 1) (zo (zc k pc) 2) L st n M := by
                      unfold zcall
                      rw [e1]
                      refine ⟨zcb_ok a4, ?_⟩
                      refine zxr_ok f _ _ _ _ _ _ _ _ _ _ _ _ _ e2 _ (zG_of (zrv_ok e3 ⟨zalb_ok a5, ?_⟩))
                      exact zxr_ok f _ _ _ _ _ _ _ _ _ _ _ _ _ h Q hG
                    generalize zc k pc = i at key a3
                    obtain ⟨op, nx, os, v⟩ := i
                    dsimp only at a3
                    subst a3
                    exact key
                  · rw [if_neg a5] at h; cases h
                · cases h
              · cases h
            · rw [if_neg a4] at h; cases h
          · cases h
        · rw [if_neg a3] at h
          split at h
          · rename_i p2 r e1
            exact zG_of (zxb_ok e1 (zxr_ok f _ _ _ _ _ _ _ _ _ _ _ _ _ h Q hG))
          · by_cases a4 : zgb k n0 (zc k pc) L st n M = true
            · rw [if_pos a4] at h
              split at h
              · rename_i g L2 s2 n2 M2 e2
                exact zG_of (zwI_step a4 e2 (zxr_ok f _ _ _ _ _ _ _ _ _ _ _ _ _ h Q hG))
              · cases h
            · rw [if_neg a4] at h; cases h
