/-! A CLEAN MACHINE: values are (kind, integer), kinds 0 int, 1 long, 2 reference (0 is null), 3 nothing; the heap is a function of cell and place. zG says that a frame comes to its return with Q; it is the least predicate that keeps the rules of zwI. -/
abbrev zV : Type := Nat × Int
abbrev zM : Type := Int → Int → Int
abbrev zQ : Type := Int → Int → zM → Prop
abbrev zJ : Type := Nat → List zV → List zV → Int → zM → Prop
def zw (x : Int) : Int := (x + 2147483648) % 4294967296 - 2147483648
def zW (x : Int) : Int := (x + 9223372036854775808) % 18446744073709551616 - 9223372036854775808
def zset (M : zM) (a i v : Int) : zM := fun b j => if b = a ∧ j = i then v else M b j
def zcopy (M : zM) (q sp d dp n : Int) : zM := fun b j => if b = d ∧ dp ≤ j ∧ j < dp + n then M q (sp + (j - dp)) else M b j
def zand (x y : Int) : Int := (Int32.ofInt x &&& Int32.ofInt y).toInt
def zor (x y : Int) : Int := (Int32.ofInt x ||| Int32.ofInt y).toInt
def zxor (x y : Int) : Int := (Int32.ofInt x ^^^ Int32.ofInt y).toInt
def zshl (x y : Int) : Int := (Int32.ofInt x <<< (Int32.ofInt y &&& 31)).toInt
def zshr (x y : Int) : Int := (Int32.ofInt x >>> (Int32.ofInt y &&& 31)).toInt
def zushr (x y : Int) : Int := ((Int32.ofInt x).toUInt32 >>> ((Int32.ofInt y).toUInt32 &&& Int32.toUInt32 31)).toInt32.toInt
def zlcmp (x y : Int) : Int := if x < y then -1 else if x = y then 0 else 1
def znth : List zV → Nat → Option zV
  | [], _ => none
  | v :: _, 0 => some v
  | _ :: l, k + 1 => znth l k
/-- a value of one place is stored: a long ahead of it is lost -/
def zst1 : List zV → Nat → zV → List zV
  | [], _, _ => []
  | _ :: l, 0, v => v :: l
  | w :: l, 1, v => (if w.1 = 1 then (3, 0) else w) :: zst1 l 0 v
  | w :: l, k + 2, v => w :: zst1 l (k + 1) v
def zst2 : List zV → Nat → zV → List zV
  | [], _, _ => []
  | [_], 0, v => [v]
  | _ :: _ :: l, 0, v => v :: (3, 0) :: l
  | w :: l, 1, v => (if w.1 = 1 then (3, 0) else w) :: zst2 l 0 v
  | w :: l, k + 2, v => w :: zst2 l (k + 1) v
def zo (i : zI) (j : Nat) : Nat := i.2.2.1.getD j 0
def zcats (st : List zV) : Nat := match st with
  | [] => 0
  | v :: r => (if v.1 = 1 then 2 else 1) + zcats r
/-- instructions that go on to the next one: what they ask, and the state behind them -/
def zstep (k : Nat) (n0 : Int) (i : zI) (L st : List zV) (n : Int) (M : zM) : Option (Prop × List zV × List zV × Int × zM) :=
  match i.1 with
  | 0 => some (True, L, (0, i.2.2.2) :: st, n, M)
  | 1 => some (True, L, (1, i.2.2.2) :: st, n, M)
  | 2 => match znth L (zo i 0) with | some (0, x) => some (True, L, (0, x) :: st, n, M) | _ => none
  | 3 => match znth L (zo i 0) with | some (1, x) => some (True, L, (1, x) :: st, n, M) | _ => none
  | 4 => match znth L (zo i 0) with | some (2, x) => some (0 < x, L, (2, x) :: st, n, M) | _ => none
  | 5 => match znth L (zo i 0), st with | some _, (0, x) :: r => some (True, zst1 L (zo i 0) (0, x), r, n, M) | _, _ => none
  | 6 => match znth L (zo i 0 + 1), st with | some _, (1, x) :: r => some (True, zst2 L (zo i 0) (1, x), r, n, M) | _, _ => none
  | 7 => match znth L (zo i 0), st with | some _, (2, x) :: r => some (0 < x, zst1 L (zo i 0) (2, x), r, n, M) | _, _ => none
  | 8 => match znth L (zo i 0) with | some (0, x) => some (True, zst1 L (zo i 0) (0, zw (x + i.2.2.2)), st, n, M) | _ => none
  | 50 => match st with | (0, y) :: (0, x) :: r => some (True, L, (0, zw (x + y)) :: r, n, M) | _ => none
  | 51 => match st with | (0, y) :: (0, x) :: r => some (True, L, (0, zw (x - y)) :: r, n, M) | _ => none
  | 52 => match st with | (0, y) :: (0, x) :: r => some (True, L, (0, zw (x * y)) :: r, n, M) | _ => none
  | 53 => match st with | (0, y) :: (0, x) :: r => some (True, L, (0, zand x y) :: r, n, M) | _ => none
  | 54 => match st with | (0, y) :: (0, x) :: r => some (True, L, (0, zor x y) :: r, n, M) | _ => none
  | 55 => match st with | (0, y) :: (0, x) :: r => some (True, L, (0, zxor x y) :: r, n, M) | _ => none
  | 56 => match st with | (0, y) :: (0, x) :: r => some (True, L, (0, zshl x y) :: r, n, M) | _ => none
  | 57 => match st with | (0, y) :: (0, x) :: r => some (True, L, (0, zshr x y) :: r, n, M) | _ => none
  | 58 => match st with | (0, y) :: (0, x) :: r => some (True, L, (0, zushr x y) :: r, n, M) | _ => none
  | 60 => match st with | (1, y) :: (1, x) :: r => some (True, L, (1, zW (x + y)) :: r, n, M) | _ => none
  | 61 => match st with | (1, y) :: (1, x) :: r => some (True, L, (1, zW (x - y)) :: r, n, M) | _ => none
  | 62 => match st with | (1, y) :: (1, x) :: r => some (True, L, (1, zW (x * y)) :: r, n, M) | _ => none
  | 11 => match st with | (0, x) :: r => some (True, L, (0, zw (-x)) :: r, n, M) | _ => none
  | 12 => match st with | (0, x) :: r => some (True, L, (1, x) :: r, n, M) | _ => none
  | 13 => match st with | (1, y) :: (1, x) :: r => some (True, L, (0, zlcmp x y) :: r, n, M) | _ => none
  | 18 => match st with | (0, x) :: r => some (True, L, (0, x) :: (0, x) :: r, n, M) | (2, x) :: r => some (True, L, (2, x) :: (2, x) :: r, n, M) | _ => none
  | 19 => match st with | (0, x) :: (2, a) :: r => some (True, L, (0, x) :: (2, a) :: (0, x) :: (2, a) :: r, n, M) | _ => none
  | 20 => match st with | (0, _) :: r => some (True, L, r, n, M) | _ => none
  | 21 => match st with | (2, a) :: r => some (zKT a = (2, zo i 0), L, (zft (zo i 0) (zo i 1), M a (zo i 1)) :: r, n, M) | _ => none
  | 22 => match st with | (0, x) :: (2, a) :: r => some (zKT a = (2, zo i 0), L, r, n, zset M a (zo i 1) x) | _ => none
  | 23 => match st with | (0, x) :: (2, a) :: r => some (zKT a = (2, zo i 0) ∧ (x = 0 ∨ x = 1), L, r, n, zset M a (zo i 1) x) | _ => none
  | 24 => match st with | (1, x) :: (2, a) :: r => some (zKT a = (2, zo i 0), L, r, n, zset M a (zo i 1) x) | _ => none
  | 25 => match st with | (2, x) :: (2, a) :: r => some (zKT a = (2, zo i 0) ∧ 0 < x, L, r, n, zset M a (zo i 1) x) | _ => none
  | 26 => match st with | (0, j) :: (2, a) :: r => some ((zKT a).1 = 0 ∧ 0 ≤ j ∧ j < (zKT a).2, L, (0, M a j) :: r, n, M) | _ => none
  | 27 => match st with | (0, x) :: (0, j) :: (2, a) :: r => some ((zKT a).1 = 0 ∧ 0 ≤ j ∧ j < (zKT a).2, L, r, n, zset M a j x) | _ => none
  | 28 => match st with | (0, j) :: (2, a) :: r => some ((zKT a).1 = 1 ∧ 0 ≤ j ∧ j < (zKT a).2, L, (2, M a j) :: r, n, M) | _ => none
  | 29 => match st with | (2, x) :: (0, j) :: (2, a) :: r => some ((zKT a).1 = 1 ∧ 0 ≤ j ∧ j < (zKT a).2 ∧ zKT x = (2, 1), L, r, n, zset M a j x) | _ => none
  | 30 => match st with | (2, a) :: r => some ((zKT a).1 = 0, L, (0, (zKT a).2) :: r, n, M) | _ => none
  | 31 => some (zKT (n + 1) = (2, zo i 0) ∧ n + 1 ≤ n0 + zmc k ∧ zsl (n + 1) ≤ zsl n0 + zms k, L, (2, n + 1) :: st, n + 1, M)
  | 32 => match st with | (0, x) :: r => some (zKT (n + 1) = (0, x.toNat) ∧ 0 ≤ x ∧ n + 1 ≤ n0 + zmc k ∧ zsl (n + 1) ≤ zsl n0 + zms k, L, (2, n + 1) :: r, n + 1, M) | _ => none
  | 33 => match st with | (0, x) :: r => some (zKT (n + 1) = (1, x.toNat) ∧ 0 ≤ x ∧ n + 1 ≤ n0 + zmc k ∧ zsl (n + 1) ≤ zsl n0 + zms k, L, (2, n + 1) :: r, n + 1, M) | _ => none
  | 40 => match st with | (0, m) :: (0, dp) :: (2, d) :: (0, sp) :: (2, q) :: r => some ((zKT q).1 = 0 ∧ (zKT d).1 = 0 ∧ 0 ≤ sp ∧ 0 ≤ dp ∧ 0 ≤ m ∧ sp + m ≤ (zKT q).2 ∧ dp + m ≤ (zKT d).2 ∧ zcats r ≤ 8 ∧ 1 ≤ zfr k ∧ 26 ≤ zlo k, L, r, n, zcopy M q sp d dp m) | _ => none
  | 41 => match st with | (2, a) :: r => some (0 < a ∧ zcats r ≤ 8 ∧ 1 ≤ zfr k ∧ 20 ≤ zlo k, L, r, n, M) | _ => none
  | 42 => match st with | (0, x) :: r => some (zcats r ≤ 8 ∧ 1 ≤ zfr k ∧ 21 ≤ zlo k, L, (0, if 0 ≤ x then x else zw (0 - x)) :: r, n, M) | _ => none
  | _ => none
/-- a table of targets -/
def zsw (K : Nat → Prop) (x : Int) : Int → List Nat → Nat → Prop
  | _, [], d => K d
  | lo, t :: ts, d => (x = lo → K t) ∧ (¬ x = lo → zsw K x (lo + 1) ts d)
def zpp : Nat → List zV → List zV → Option (List zV × List zV)
  | 0, acc, st => some (acc, st)
  | m + 1, acc, v :: st => zpp m (v :: acc) st
  | _ + 1, _, [] => none
def zspr : List zV → List zV
  | [] => []
  | v :: l => if v.1 = 1 then v :: (3, 0) :: zspr l else v :: zspr l
def zpad : Nat → List zV → List zV
  | 0, l => l
  | m + 1, [] => (3, 0) :: zpad m []
  | m + 1, v :: l => v :: zpad m l
def zpush (t : Nat) (x : Int) (r : List zV) : List zV := match t with
  | 0 => (0, x) :: r
  | 1 => (1, x) :: r
  | 2 => r
  | _ => (0, x) :: r
def zal (k : Nat) (n n' : Int) : Prop := match zmc k with
  | 0 => n' = n
  | c + 1 => n' = n + (c + 1 : Nat) ∧ zsl n' = zsl n + zms k
def zfitc (k : Nat) (n0 : Int) (k' : Nat) (n : Int) : Prop := match zmc k' with
  | 0 => True
  | c + 1 => n + (c + 1 : Nat) ≤ n0 + zmc k ∧ zsl n + zms k' ≤ zsl n0 + zms k
def zrecv (kind k' : Nat) (As : List zV) : Prop := match kind, As with
  | 0, (2, a) :: _ => zKT a = (2, zoc k')
  | 1, _ => True
  | 2, (2, a) :: _ => 0 < a
  | 3, (2, a) :: _ => 0 < a
  | 4, _ => True
  | _, _ => False
abbrev zCt : Type := Nat → zQ → List zV → Int → zM → Prop
def zcall (k : Nat) (n0 : Int) (K : zJ) (C : zCt) (nx k' na kind : Nat) (L st : List zV) (n : Int) (M : zM) : Prop :=
  match zpp na [] st with
  | some (As, r) => (zrecv kind k' As ∧ zcats r ≤ 8 ∧ (zspr As).length ≤ zml k' ∧ zfr k' + 1 ≤ zfr k ∧ 8 + (zml k' + 11) + zlo k' ≤ zlo k ∧ zfitc k n0 k' n) ∧ C k' (fun x n' M' => zal k' n n' ∧ K nx L (zpush (zrt k') x r) n' M') As n M
  | none => False
def zwI (k : Nat) (n0 : Int) (K : zJ) (C : zCt) (Q : zQ) (i : zI) (L st : List zV) (n : Int) (M : zM) : Prop :=
  match i.1 with
  | 16 => match st with | (2, x) :: r => (x ≤ 0 → K (zo i 0) L r n M) ∧ (¬ x ≤ 0 → K i.2.1 L r n M) | _ => False
  | 17 => K (zo i 0) L st n M
  | 34 => zcall k n0 K C i.2.1 (zo i 0) (zo i 1) (zo i 2) L st n M
  | 35 => match st with | [(0, x)] => Q x n M | _ => False
  | 36 => match st with | [(0, x)] => (x = 0 ∨ x = 1) ∧ Q x n M | _ => False
  | 37 => match st with | [(1, x)] => Q x n M | _ => False
  | 38 => match st with | [] => Q 0 n M | _ => False
  | 39 => match st with | (0, x) :: r => zsw (fun t => K t L r n M) x i.2.2.2 (i.2.2.1.tail) (zo i 0) | _ => False
  | 70 => match st with | (0, y) :: (0, x) :: r => (x = y → K (zo i 0) L r n M) ∧ (¬ x = y → K i.2.1 L r n M) | _ => False
  | 71 => match st with | (0, y) :: (0, x) :: r => (¬ x = y → K (zo i 0) L r n M) ∧ (x = y → K i.2.1 L r n M) | _ => False
  | 72 => match st with | (0, y) :: (0, x) :: r => (x < y → K (zo i 0) L r n M) ∧ (¬ x < y → K i.2.1 L r n M) | _ => False
  | 73 => match st with | (0, y) :: (0, x) :: r => (¬ x < y → K (zo i 0) L r n M) ∧ (x < y → K i.2.1 L r n M) | _ => False
  | 74 => match st with | (0, y) :: (0, x) :: r => (y < x → K (zo i 0) L r n M) ∧ (¬ y < x → K i.2.1 L r n M) | _ => False
  | 75 => match st with | (0, y) :: (0, x) :: r => (¬ y < x → K (zo i 0) L r n M) ∧ (y < x → K i.2.1 L r n M) | _ => False
  | 80 => match st with | (0, x) :: r => (x = 0 → K (zo i 0) L r n M) ∧ (¬ x = 0 → K i.2.1 L r n M) | _ => False
  | 81 => match st with | (0, x) :: r => (¬ x = 0 → K (zo i 0) L r n M) ∧ (x = 0 → K i.2.1 L r n M) | _ => False
  | 82 => match st with | (0, x) :: r => (x < 0 → K (zo i 0) L r n M) ∧ (¬ x < 0 → K i.2.1 L r n M) | _ => False
  | 83 => match st with | (0, x) :: r => (¬ x < 0 → K (zo i 0) L r n M) ∧ (x < 0 → K i.2.1 L r n M) | _ => False
  | 84 => match st with | (0, x) :: r => (0 < x → K (zo i 0) L r n M) ∧ (¬ 0 < x → K i.2.1 L r n M) | _ => False
  | 85 => match st with | (0, x) :: r => (¬ 0 < x → K (zo i 0) L r n M) ∧ (0 < x → K i.2.1 L r n M) | _ => False
  | _ => match zstep k n0 i L st n M with
    | some (g, L', st', n', M') => g ∧ K i.2.1 L' st' n' M'
    | none => False
theorem zsw_mono {K K' : Nat → Prop} (h : ∀ t, K t → K' t) (x : Int) : ∀ (ts : List Nat) (lo : Int) (d : Nat), zsw K x lo ts d → zsw K' x lo ts d
  | [], _, d => h d
  | t :: ts, lo, d => fun q => ⟨fun e => h t (q.1 e), fun e => zsw_mono h x ts (lo + 1) d (q.2 e)⟩
set_option maxHeartbeats 4000000 in
theorem zwI_mono {k : Nat} {n0 : Int} {K K' : zJ} {C C' : zCt} {Q Q' : zQ} (hK : ∀ pc L st n M, K pc L st n M → K' pc L st n M) (hC : ∀ k' Q1 Q2 As n M, (∀ r n' M', Q1 r n' M' → Q2 r n' M') → C k' Q1 As n M → C' k' Q2 As n M) (hQ : ∀ r n M, Q r n M → Q' r n M) {i : zI} {L st : List zV} {n : Int} {M : zM} : zwI k n0 K C Q i L st n M → zwI k n0 K' C' Q' i L st n M := by
  unfold zwI
  split
  · split <;> first | exact id | exact fun q => ⟨fun e => hK _ _ _ _ _ (q.1 e), fun e => hK _ _ _ _ _ (q.2 e)⟩
  · exact hK _ _ _ _ _
  · unfold zcall
    split
    · exact fun q => ⟨q.1, hC _ _ _ _ _ _ (fun r n' M' h => ⟨h.1, hK _ _ _ _ _ h.2⟩) q.2⟩
    · exact id
  · split <;> first | exact id | exact hQ _ _ _
  · split <;> first | exact id | exact fun q => ⟨q.1, hQ _ _ _ q.2⟩
  · split <;> first | exact id | exact hQ _ _ _
  · split <;> first | exact id | exact hQ _ _ _
  · split <;> first | exact id | exact zsw_mono (fun t => hK _ _ _ _ _) _ _ _ _
  · split <;> first | exact id | exact fun q => ⟨fun e => hK _ _ _ _ _ (q.1 e), fun e => hK _ _ _ _ _ (q.2 e)⟩
  · split <;> first | exact id | exact fun q => ⟨fun e => hK _ _ _ _ _ (q.1 e), fun e => hK _ _ _ _ _ (q.2 e)⟩
  · split <;> first | exact id | exact fun q => ⟨fun e => hK _ _ _ _ _ (q.1 e), fun e => hK _ _ _ _ _ (q.2 e)⟩
  · split <;> first | exact id | exact fun q => ⟨fun e => hK _ _ _ _ _ (q.1 e), fun e => hK _ _ _ _ _ (q.2 e)⟩
  · split <;> first | exact id | exact fun q => ⟨fun e => hK _ _ _ _ _ (q.1 e), fun e => hK _ _ _ _ _ (q.2 e)⟩
  · split <;> first | exact id | exact fun q => ⟨fun e => hK _ _ _ _ _ (q.1 e), fun e => hK _ _ _ _ _ (q.2 e)⟩
  · split <;> first | exact id | exact fun q => ⟨fun e => hK _ _ _ _ _ (q.1 e), fun e => hK _ _ _ _ _ (q.2 e)⟩
  · split <;> first | exact id | exact fun q => ⟨fun e => hK _ _ _ _ _ (q.1 e), fun e => hK _ _ _ _ _ (q.2 e)⟩
  · split <;> first | exact id | exact fun q => ⟨fun e => hK _ _ _ _ _ (q.1 e), fun e => hK _ _ _ _ _ (q.2 e)⟩
  · split <;> first | exact id | exact fun q => ⟨fun e => hK _ _ _ _ _ (q.1 e), fun e => hK _ _ _ _ _ (q.2 e)⟩
  · split <;> first | exact id | exact fun q => ⟨fun e => hK _ _ _ _ _ (q.1 e), fun e => hK _ _ _ _ _ (q.2 e)⟩
  · split <;> first | exact id | exact fun q => ⟨fun e => hK _ _ _ _ _ (q.1 e), fun e => hK _ _ _ _ _ (q.2 e)⟩
  · split <;> first | exact id | exact fun q => ⟨q.1, hK _ _ _ _ _ q.2⟩
abbrev zPt : Type := Nat → Int → zQ → zJ
def zent (P : zPt) : zCt := fun k' Q' As n M => P k' n Q' 0 (zpad (zml k') (zspr As)) [] n M
def zmo (P : zPt) : Prop := ∀ k n0 Q Q' pc L st n M, (∀ r n' M', Q r n' M' → Q' r n' M') → P k n0 Q pc L st n M → P k n0 Q' pc L st n M
def zcl (P : zPt) : Prop := ∀ k n0 Q pc L st n M, zwI k n0 (P k n0 Q) (zent P) Q (zc k pc) L st n M → P k n0 Q pc L st n M
/-- less is known of the locals -/
def zle : List zV → List zV → Prop
  | [], [] => True
  | v :: l, w :: m => (v = w ∨ v = (3, 0)) ∧ zle l m
  | _, _ => False
def zfo (P : zPt) : Prop := ∀ k n0 Q pc L L' st n M, zle L L' → P k n0 Q pc L st n M → P k n0 Q pc L' st n M
/-- the frame comes to its return with Q -/
def zG (k : Nat) (n0 : Int) (Q : zQ) (pc : Nat) (L st : List zV) (n : Int) (M : zM) : Prop := ∀ P : zPt, zmo P → zcl P → zfo P → P k n0 Q pc L st n M
theorem zG_of {k : Nat} {n0 : Int} {Q : zQ} {pc : Nat} {L st : List zV} {n : Int} {M : zM} (h : zwI k n0 (zG k n0 Q) (zent zG) Q (zc k pc) L st n M) : zG k n0 Q pc L st n M := by
  intro P hm hc hf
  refine hc _ _ _ _ _ _ _ _ (zwI_mono (fun pc L st n M q => q P hm hc hf) (fun k' Q1 Q2 As n M hq q => hm _ _ _ _ _ _ _ _ _ hq (q P hm hc hf)) (fun _ _ _ q => q) h)
theorem zG_mono {k : Nat} {n0 : Int} {Q Q' : zQ} {pc : Nat} {L st : List zV} {n : Int} {M : zM} (hQ : ∀ r n' M', Q r n' M' → Q' r n' M') (h : zG k n0 Q pc L st n M) : zG k n0 Q' pc L st n M :=
  fun P hm hc hf => hm _ _ _ _ _ _ _ _ _ hQ (h P hm hc hf)
theorem zG_fo {k : Nat} {n0 : Int} {Q : zQ} {pc : Nat} {L L' st : List zV} {n : Int} {M : zM} (hl : zle L L') (h : zG k n0 Q pc L st n M) : zG k n0 Q pc L' st n M :=
  fun P hm hc hf => hf _ _ _ _ _ _ _ _ _ hl (h P hm hc hf)
/-- a call of method k with the values As -/
def zC (k : Nat) (Q : zQ) (As : List zV) (n : Int) (M : zM) : Prop := zG k n Q 0 (zpad (zml k) (zspr As)) [] n M
theorem zC_mono {k : Nat} {Q Q' : zQ} {As : List zV} {n : Int} {M : zM} (h : zC k Q As n M) (hQ : ∀ r n' M', Q r n' M' → Q' r n' M') : zC k Q' As n M := zG_mono hQ h
/-- many instructions at once, till a place of 'stop' -/
def zR (k : Nat) (n0 : Int) (Q : zQ) (stop : List Nat) : Nat → zJ
  | 0, pc, L, st, n, M => zG k n0 Q pc L st n M
  | f + 1, pc, L, st, n, M => if stop.contains pc then zG k n0 Q pc L st n M else zwI k n0 (zR k n0 Q stop f) zC Q (zc k pc) L st n M
theorem zR_G {k : Nat} {n0 : Int} {Q : zQ} {stop : List Nat} : ∀ (f pc : Nat) (L st : List zV) (n : Int) (M : zM), zR k n0 Q stop f pc L st n M → zG k n0 Q pc L st n M
  | 0, _, _, _, _, _, h => h
  | f + 1, pc, L, st, n, M, h => by
    unfold zR at h
    split at h
    · exact h
    · exact zG_of (zwI_mono (K' := zG k n0 Q) (C' := zent zG) (Q' := Q) (fun pc L st n M q => zR_G f pc L st n M q) (fun k' Q1 Q2 As n M hq q => zG_mono hq q) (fun _ _ _ q => q) h)
/-- from a place, the place itself isn't a stop -/
theorem zR_go {k : Nat} {n0 : Int} {Q : zQ} (stop : List Nat) (f : Nat) {pc : Nat} {L st : List zV} {n : Int} {M : zM} (h : zwI k n0 (zR k n0 Q stop f) zC Q (zc k pc) L st n M) : zG k n0 Q pc L st n M :=
  zG_of (zwI_mono (K' := zG k n0 Q) (C' := zent zG) (Q' := Q) (fun pc L st n M q => zR_G f pc L st n M q) (fun k' Q1 Q2 As n M hq q => zG_mono hq q) (fun _ _ _ q => q) h)
