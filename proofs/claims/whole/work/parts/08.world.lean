/-! THE WORLD of the clean machine as the kit's world: cell a lies at b + a -/
def zv (b : Nat) (v : zV) : Value := match v.1 with
  | 0 => .int (Int32.ofInt v.2)
  | 1 => .long (Int64.ofInt v.2)
  | _ => if v.2 ≤ 0 then .null else .ref (b + v.2.toNat)
def zE (b : Nat) (cA cN : ClassId) (q : Nat × Nat) (r : Int → Int) : va_E := match q.1 with
  | 0 => .inl (cA, q.2, .inl (fun j => Int32.ofInt (r j)))
  | 1 => .inl (cN, q.2, .inr (.inr (.inr (.inr (fun j => if r j ≤ 0 then none else some (b + (r j).toNat))))))
  | _ => .inr (q.2, (List.range (znf q.2)).map (fun j => zv b (zft q.2 j, r j)))
def zws (b : Nat) (cA cN : ClassId) (n : Int) (M : zM) : va_W := (List.range n.toNat).map (fun i => (b + (i + 1), zE b cA cN (zKT ((i : Int) + 1)) (M ((i : Int) + 1))))
def zr (n : Int) (v : zV) : Prop := match v.1 with
  | 0 => -2147483648 ≤ v.2 ∧ v.2 < 2147483648
  | 1 => -9223372036854775808 ≤ v.2 ∧ v.2 < 9223372036854775808
  | 2 => 0 ≤ v.2 ∧ v.2 ≤ n
  | _ => True
def zmt (q : Nat × Nat) (j : Nat) : Nat := match q.1 with
  | 0 => 0
  | 1 => 2
  | _ => zft q.2 j
def zRM (n : Int) (M : zM) : Prop := ∀ a j : Int, 1 ≤ a → a ≤ n → 0 ≤ j → zr n (zmt (zKT a) j.toNat, M a j)
def zRel (b : Nat) (D : va_G) (cA cN : ClassId) (n : Int) (M : zM) (H : Heap) : Prop := 0 ≤ n ∧ va_P D zcls (zws b cA cN n M) H ∧ zRM n M ∧ ∀ a j : Int, n < a → M a j = 0
theorem zr_up {n n' : Int} {v : zV} (h : n ≤ n') (q : zr n v) : zr n' v := by
  obtain ⟨t, x⟩ := v
  unfold zr at *
  dsimp only at *
  split at q <;> first | exact q | exact ⟨q.1, by omega⟩ | trivial
theorem zr_0 {n : Int} (hn : 0 ≤ n) (t : Nat) : zr n (t, 0) := by
  unfold zr
  dsimp only
  split <;> first | omega | trivial
theorem zft_lt (c j : Nat) : zft c j < 3 := by
  unfold zft
  rw [List.getD_eq_getElem?_getD, List.getD_eq_getElem?_getD]
  rcases Nat.lt_or_ge c 10 with h | h
  · match c, h with
    | 0, _ | 1, _ | 2, _ | 3, _ | 4, _ | 5, _ | 6, _ | 7, _ | 8, _ | 9, _ =>
      simp only [List.getElem?_cons_zero, List.getElem?_cons_succ, Option.getD_some]
      rcases Nat.lt_or_ge j 56 with g | g
      · revert j; decide +kernel
      · rw [List.getElem?_eq_none (Nat.le_trans (by decide) g)]; decide
  · obtain ⟨d, rfl⟩ : ∃ d, c = d + 10 := ⟨c - 10, by omega⟩
    simp
theorem zws_at {b : Nat} {cA cN : ClassId} {n a : Int} {M : zM} (h1 : 1 ≤ a) (h2 : a ≤ n) : (zws b cA cN n M)[a.toNat - 1]? = some (b + a.toNat, zE b cA cN (zKT a) (M a)) := by
  unfold zws
  have e1 : a.toNat - 1 < n.toNat := by omega
  rw [List.getElem?_map, List.getElem?_range e1]
  have e2 : ((a.toNat - 1 : Nat) : Int) + 1 = a := by omega
  have e3 : b + (a.toNat - 1 + 1) = b + a.toNat := by omega
  simp only [Option.map_some, e2, e3]
theorem zws_get {b : Nat} {cA cN : ClassId} {n : Int} {M : zM} {i : Nat} {q : Nat × va_E} (h : (zws b cA cN n M)[i]? = some q) : i < n.toNat ∧ q = (b + (i + 1), zE b cA cN (zKT ((i : Int) + 1)) (M ((i : Int) + 1))) := by
  unfold zws at h
  rw [List.getElem?_map] at h
  rcases Nat.lt_or_ge i n.toNat with g | g
  · rw [List.getElem?_range g] at h
    exact ⟨g, (Option.some.inj h).symm⟩
  · rw [List.getElem?_eq_none (by simpa using g)] at h; cases h
theorem zws_D {b : Nat} {cA cN : ClassId} {n : Int} {M : zM} : va_D (fun q => b + 1 ≤ q) (zws b cA cN n M) := by
  refine ⟨fun i j p q hp hq e => ?_, fun k q hq => ?_⟩
  · rw [(zws_get hp).2, (zws_get hq).2] at e
    dsimp only at e
    omega
  · rw [(zws_get hq).2]
    dsimp only
    omega
theorem zws_set {b : Nat} {cA cN : ClassId} {n a : Int} {M M' : zM} {x : va_E} (h1 : 1 ≤ a) (h2 : a ≤ n) (hx : x = zE b cA cN (zKT a) (M' a)) (ho : ∀ c, c ≠ a → M' c = M c) : (zws b cA cN n M).set (a.toNat - 1) (b + a.toNat, x) = zws b cA cN n M' := by
  apply List.ext_getElem?
  intro i
  rw [List.getElem?_set]
  have hl : (zws b cA cN n M).length = n.toNat := by simp [zws]
  split
  · rename_i e
    subst e
    rw [if_pos (by rw [hl]; omega), zws_at h1 h2, hx]
  · rename_i e
    unfold zws
    rw [List.getElem?_map, List.getElem?_map]
    rcases Nat.lt_or_ge i n.toNat with g | g
    · rw [List.getElem?_range g, Option.map_some, Option.map_some, ho ((i : Int) + 1) (by omega)]
    · rw [List.getElem?_eq_none (by simpa using g)]; rfl
theorem zws_push {b : Nat} {cA cN : ClassId} {n : Int} {M : zM} (h : 0 ≤ n) : zws b cA cN (n + 1) M = zws b cA cN n M ++ [(b + (n + 1).toNat, zE b cA cN (zKT (n + 1)) (M (n + 1)))] := by
  unfold zws
  have e : (n + 1).toNat = n.toNat + 1 := by omega
  have e2 : ((n.toNat : Nat) : Int) + 1 = n + 1 := by omega
  rw [e, List.range_succ, List.map_append]
  simp only [List.map_cons, List.map_nil, e2]
theorem zset_row (M : zM) (a i v : Int) : ∀ c, c ≠ a → zset M a i v c = M c := by
  intro c h
  funext j
  unfold zset
  rw [if_neg (fun q => h q.1)]
theorem zset_at (M : zM) (a i v : Int) : zset M a i v a = fun j => if j = i then v else M a j := by
  funext j
  unfold zset
  by_cases h : j = i
  · rw [if_pos ⟨rfl, h⟩, if_pos h]
  · rw [if_neg (fun q => h q.2), if_neg h]
theorem zRM_set {n : Int} {M : zM} {a i v : Int} (h : zRM n M) (hv : zr n (zmt (zKT a) i.toNat, v)) : zRM n (zset M a i v) := by
  intro c j h1 h2 h3
  unfold zset
  by_cases e : c = a ∧ j = i
  · rw [if_pos e, e.1, e.2]; exact hv
  · rw [if_neg e]; exact h c j h1 h2 h3
theorem zset_z {n : Int} {M : zM} {a i v : Int} (h : ∀ c j : Int, n < c → M c j = 0) (ha : a ≤ n) : ∀ c j : Int, n < c → zset M a i v c j = 0 := by
  intro c j hc
  unfold zset
  rw [if_neg (fun q => by omega)]
  exact h c j hc
/-- locals -/
def zlv (b : Nat) : Nat → List zV → List (Nat × Value)
  | _, [] => []
  | i, v :: l => if v.1 = 3 then zlv b (i + 1) l else (i, zv b v) :: zlv b (i + 1) l
theorem zlv_mem {b : Nat} : ∀ {L : List zV} {i : Nat} {q : Nat × Value}, q ∈ zlv b i L ↔ ∃ k v, znth L k = some v ∧ v.1 ≠ 3 ∧ q = (i + k, zv b v)
  | [], i, q => by simp [zlv, znth]
  | v :: l, i, q => by
    have ih := zlv_mem (b := b) (L := l) (i := i + 1) (q := q)
    unfold zlv
    constructor
    · intro h
      by_cases e : v.1 = 3
      · rw [if_pos e] at h
        obtain ⟨k, w, h1, h2, h3⟩ := ih.mp h
        exact ⟨k + 1, w, h1, h2, by rw [h3, show i + 1 + k = i + (k + 1) by omega]⟩
      · rw [if_neg e] at h
        rcases List.mem_cons.mp h with h | h
        · exact ⟨0, v, rfl, e, h⟩
        · obtain ⟨k, w, h1, h2, h3⟩ := ih.mp h
          exact ⟨k + 1, w, h1, h2, by rw [h3, show i + 1 + k = i + (k + 1) by omega]⟩
    · rintro ⟨k, w, h1, h2, h3⟩
      cases k with
      | zero =>
        cases h1
        rw [if_neg h2, h3]
        exact List.mem_cons_self
      | succ k =>
        have := ih.mpr ⟨k, w, h1, h2, by rw [h3, show i + 1 + k = i + (k + 1) by omega]⟩
        split
        · exact this
        · exact List.mem_cons_of_mem _ this
theorem znth_lt : ∀ {L : List zV} {k : Nat} {v : zV}, znth L k = some v → k < L.length
  | [], _, _, h => by cases h
  | _ :: _, 0, _, _ => Nat.succ_pos _
  | _ :: l, k + 1, _, h => Nat.succ_lt_succ (znth_lt (L := l) h)
theorem znth_mem : ∀ {L : List zV} {k : Nat} {v : zV}, znth L k = some v → v ∈ L
  | [], _, _, h => by cases h
  | _ :: _, 0, _, h => by cases h; exact List.mem_cons_self
  | _ :: l, k + 1, _, h => List.mem_cons_of_mem _ (znth_mem (L := l) h)
theorem zst1_len : ∀ (L : List zV) (k : Nat) (v : zV), (zst1 L k v).length = L.length
  | [], _, _ => by simp [zst1]
  | _ :: _, 0, _ => by simp [zst1]
  | w :: l, 1, v => by simp [zst1, zst1_len l 0 v]
  | w :: l, k + 2, v => by simp [zst1, zst1_len l (k + 1) v]
theorem zst2_len : ∀ (L : List zV) (k : Nat) (v : zV), (zst2 L k v).length = L.length
  | [], _, _ => by simp [zst2]
  | [_], 0, _ => by simp [zst2]
  | _ :: _ :: _, 0, _ => by simp [zst2]
  | w :: l, 1, v => by simp [zst2, zst2_len l 0 v]
  | w :: l, k + 2, v => by simp [zst2, zst2_len l (k + 1) v]
/-- what stands in the locals behind a store -/
theorem zst1_nth : ∀ (L : List zV) (k : Nat) (v : zV) (j : Nat) (w : zV), znth (zst1 L k v) j = some w → w.1 ≠ 3 → (j = k ∧ w = v) ∨ (j ≠ k ∧ znth L j = some w ∧ ¬ (j + 1 = k ∧ w.1 = 1))
  | [], k, v, j, w, h, _ => by simp [zst1, znth] at h
  | u :: l, 0, v, j, w, h, _ => by
    cases j with
    | zero => left; simp only [zst1, znth] at h; exact ⟨rfl, (Option.some.inj h).symm⟩
    | succ j => right; simp only [zst1, znth] at h; exact ⟨by omega, h, by omega⟩
  | u :: l, 1, v, j, w, h, hw => by
    cases j with
    | zero =>
      right
      simp only [zst1, znth] at h
      split at h
      · cases h; exact absurd rfl hw
      · rename_i e
        cases h
        exact ⟨by omega, rfl, fun q => e q.2⟩
    | succ j =>
      simp only [zst1, znth] at h
      rcases zst1_nth l 0 v j w h hw with ⟨a, c⟩ | ⟨a, c, d⟩
      · left; exact ⟨by omega, c⟩
      · right; exact ⟨by omega, c, by omega⟩
  | u :: l, k + 2, v, j, w, h, hw => by
    cases j with
    | zero =>
      right
      simp only [zst1, znth] at h
      cases h
      exact ⟨by omega, rfl, by omega⟩
    | succ j =>
      simp only [zst1, znth] at h
      rcases zst1_nth l (k + 1) v j w h hw with ⟨a, c⟩ | ⟨a, c, d⟩
      · left; exact ⟨by omega, c⟩
      · right; exact ⟨by omega, c, fun q => d ⟨by omega, q.2⟩⟩
theorem zst2_nth : ∀ (L : List zV) (k : Nat) (v : zV) (j : Nat) (w : zV), znth (zst2 L k v) j = some w → w.1 ≠ 3 → (j = k ∧ w = v) ∨ (j ≠ k ∧ j ≠ k + 1 ∧ znth L j = some w ∧ ¬ (j + 1 = k ∧ w.1 = 1))
  | [], k, v, j, w, h, _ => by simp [zst2, znth] at h
  | [u], 0, v, j, w, h, _ => by
    cases j with
    | zero => left; simp only [zst2, znth] at h; exact ⟨rfl, (Option.some.inj h).symm⟩
    | succ j => simp [zst2, znth] at h
  | u :: u2 :: l, 0, v, j, w, h, hw => by
    cases j with
    | zero => left; simp only [zst2, znth] at h; exact ⟨rfl, (Option.some.inj h).symm⟩
    | succ j =>
      cases j with
      | zero => simp only [zst2, znth] at h; cases h; exact absurd rfl hw
      | succ j => right; simp only [zst2, znth] at h; exact ⟨by omega, by omega, h, by omega⟩
  | u :: l, 1, v, j, w, h, hw => by
    cases j with
    | zero =>
      right
      simp only [zst2, znth] at h
      split at h
      · cases h; exact absurd rfl hw
      · rename_i e
        cases h
        exact ⟨by omega, by omega, rfl, fun q => e q.2⟩
    | succ j =>
      simp only [zst2, znth] at h
      rcases zst2_nth l 0 v j w h hw with ⟨a, c⟩ | ⟨a, a2, c, d⟩
      · left; exact ⟨by omega, c⟩
      · right; exact ⟨by omega, by omega, c, by omega⟩
  | u :: l, k + 2, v, j, w, h, hw => by
    cases j with
    | zero =>
      right
      simp only [zst2, znth] at h
      cases h
      exact ⟨by omega, by omega, rfl, by omega⟩
    | succ j =>
      simp only [zst2, znth] at h
      rcases zst2_nth l (k + 1) v j w h hw with ⟨a, c⟩ | ⟨a, a2, c, d⟩
      · left; exact ⟨by omega, c⟩
      · right; exact ⟨by omega, by omega, c, fun q => d ⟨by omega, q.2⟩⟩
theorem zv_cat (b : Nat) (v : zV) : (zv b v).category = 2 ↔ v.1 = 1 := by
  obtain ⟨t, x⟩ := v
  unfold zv
  match t with
  | 0 => simp [Value.category]
  | 1 => simp [Value.category]
  | t + 2 =>
    show (if x ≤ 0 then Value.null else Value.ref (b + x.toNat)).category = 2 ↔ t + 2 = 1
    split <;> simp [Value.category]
theorem zst1_has {b nL : Nat} {L : List zV} {k : Nat} {v : zV} {ls : Array Slot} (h : lv_has ls nL ((k, zv b v) :: (zlv b 0 L).filter (fun q => !(q.1 == k) && !(q.1 + 1 == k && q.2.category == 2)))) : lv_has ls nL (zlv b 0 (zst1 L k v)) := by
  refine ⟨h.1, h.2.1, fun q hq => h.2.2 q ?_⟩
  obtain ⟨j, w, h1, h2, rfl⟩ := zlv_mem.mp hq
  rw [Nat.zero_add]
  rcases zst1_nth L k v j w h1 h2 with ⟨rfl, rfl⟩ | ⟨a, c, d⟩
  · exact List.mem_cons_self
  · refine List.mem_cons_of_mem _ (List.mem_filter.mpr ⟨zlv_mem.mpr ⟨j, w, c, h2, by rw [Nat.zero_add]⟩, ?_⟩)
    simp only [Bool.and_eq_true, Bool.not_eq_true', beq_eq_false_iff_ne, ne_eq, Bool.and_eq_false_iff]
    refine ⟨a, ?_⟩
    by_cases e : j + 1 = k
    · right; rw [zv_cat]; exact fun q => d ⟨e, q⟩
    · left; exact e
theorem zst2_has {b nL : Nat} {L : List zV} {k : Nat} {v : zV} {ls : Array Slot} (h : lv_has ls nL ((k, zv b v) :: (zlv b 0 L).filter (fun q => !(q.1 == k) && (!(q.1 == k + 1) && !(q.1 + 1 == k && q.2.category == 2))))) : lv_has ls nL (zlv b 0 (zst2 L k v)) := by
  refine ⟨h.1, h.2.1, fun q hq => h.2.2 q ?_⟩
  obtain ⟨j, w, h1, h2, rfl⟩ := zlv_mem.mp hq
  rw [Nat.zero_add]
  rcases zst2_nth L k v j w h1 h2 with ⟨rfl, rfl⟩ | ⟨a, a2, c, d⟩
  · exact List.mem_cons_self
  · refine List.mem_cons_of_mem _ (List.mem_filter.mpr ⟨zlv_mem.mpr ⟨j, w, c, h2, by rw [Nat.zero_add]⟩, ?_⟩)
    simp only [Bool.and_eq_true, Bool.not_eq_true', beq_eq_false_iff_ne, ne_eq, Bool.and_eq_false_iff]
    refine ⟨a, a2, ?_⟩
    by_cases e : j + 1 = k
    · right; rw [zv_cat]; exact fun q => d ⟨e, q⟩
    · left; exact e
theorem zst1_r {n : Int} : ∀ {L : List zV} {k : Nat} {v : zV}, (∀ w ∈ L, zr n w) → zr n v → ∀ w ∈ zst1 L k v, zr n w
  | [], _, _, _, _ => by simp [zst1]
  | u :: l, 0, v, h, hv => by
    intro w hw
    simp only [zst1] at hw
    rcases List.mem_cons.mp hw with rfl | hw
    · exact hv
    · exact h w (List.mem_cons_of_mem _ hw)
  | u :: l, 1, v, h, hv => by
    intro w hw
    simp only [zst1] at hw
    rcases List.mem_cons.mp hw with rfl | hw
    · split
      · trivial
      · exact h u List.mem_cons_self
    · exact zst1_r (fun w q => h w (List.mem_cons_of_mem _ q)) hv w hw
  | u :: l, k + 2, v, h, hv => by
    intro w hw
    simp only [zst1] at hw
    rcases List.mem_cons.mp hw with rfl | hw
    · exact h _ List.mem_cons_self
    · exact zst1_r (fun w q => h w (List.mem_cons_of_mem _ q)) hv w hw
theorem zst2_r {n : Int} : ∀ {L : List zV} {k : Nat} {v : zV}, (∀ w ∈ L, zr n w) → zr n v → ∀ w ∈ zst2 L k v, zr n w
  | [], _, _, _, _ => by simp [zst2]
  | [u], 0, v, h, hv => by
    intro w hw
    simp only [zst2] at hw
    rcases List.mem_cons.mp hw with rfl | hw
    · exact hv
    · cases hw
  | u :: u2 :: l, 0, v, h, hv => by
    intro w hw
    simp only [zst2] at hw
    rcases List.mem_cons.mp hw with rfl | hw
    · exact hv
    · rcases List.mem_cons.mp hw with rfl | hw
      · trivial
      · exact h w (List.mem_cons_of_mem _ (List.mem_cons_of_mem _ hw))
  | u :: l, 1, v, h, hv => by
    intro w hw
    simp only [zst2] at hw
    rcases List.mem_cons.mp hw with rfl | hw
    · split
      · trivial
      · exact h u List.mem_cons_self
    · exact zst2_r (fun w q => h w (List.mem_cons_of_mem _ q)) hv w hw
  | u :: l, k + 2, v, h, hv => by
    intro w hw
    simp only [zst2] at hw
    rcases List.mem_cons.mp hw with rfl | hw
    · exact h _ List.mem_cons_self
    · exact zst2_r (fun w q => h w (List.mem_cons_of_mem _ q)) hv w hw
theorem zcats_eq (b : Nat) : ∀ (st : List zV), ((st.map (zv b)).map fun v => v.category).sum = zcats st
  | [] => rfl
  | v :: r => by
    have h1 := zv_cat b v
    have h2 := lv_cat (zv b v)
    simp only [List.map_cons, List.sum_cons, zcats, zcats_eq b r]
    by_cases e : v.1 = 1
    · rw [if_pos e, h1.mpr e]
    · rw [if_neg e]
      rcases h2 with h2 | h2
      · rw [h2]
      · exact absurd (h1.mp h2) e
