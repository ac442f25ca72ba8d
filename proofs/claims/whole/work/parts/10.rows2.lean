/-! rows of the machine that touch the heap -/
theorem zKT_pos {a : Int} (h : (zKT a).1 ≠ 9) : 0 < a := by
  match a with
  | .ofNat 0 => exact absurd rfl h
  | .ofNat (j + 1) => exact Int.ofNat_lt.mpr (Nat.succ_pos j)
  | .negSucc j => exact absurd rfl h
theorem zv_ref (b : Nat) {a : Int} (h : 0 < a) : zv b (2, a) = .ref (b + a.toNat) := by
  show (if a ≤ 0 then Value.null else Value.ref (b + a.toNat)) = _
  rw [if_neg (by omega)]
theorem zcls_at : ∀ c, c < 10 → zcls[c]? = some (zcnm c, zTT c, znf c)
  | 0, _ | 1, _ | 2, _ | 3, _ | 4, _ | 5, _ | 6, _ | 7, _ | 8, _ | 9, _ => rfl
  | c + 10, h => absurd h (by omega)
theorem zlay_in : ∀ c, c < 10 → ∀ w ∈ u_ws (zcnm c) (zTT c) (znf c), w ∈ zwl
  | 0, _ => zlay_0 | 1, _ => zlay_1 | 2, _ => zlay_2 | 3, _ => zlay_3 | 4, _ => zlay_4 | 5, _ => zlay_5 | 6, _ => zlay_6 | 7, _ => zlay_7 | 8, _ => zlay_8 | 9, _ => zlay_9
  | c + 10, h => absurd h (by omega)
def zty (c : Nat) : Nat → FieldType := ([tyX0, tyX1, tyX2, tyX3, tyX4, tyX5, tyX6, tyX7, tyX8, tyX9] : List (Nat → FieldType)).getD c tyX0
theorem zty_ok : ∀ c, c < 10 → ∀ k, k < znf c → parseFieldDescriptor (zTT c k).2.2.1 = some (zty c k)
  | 0, _ => tyX0_ok | 1, _ => tyX1_ok | 2, _ => tyX2_ok | 3, _ => tyX3_ok | 4, _ => tyX4_ok | 5, _ => tyX5_ok | 6, _ => tyX6_ok | 7, _ => tyX7_ok | 8, _ => tyX8_ok | 9, _ => tyX9_ok
  | c + 10, h => absurd h (by omega)
theorem znm_ok : ∀ c, c < 10 → ∀ a, a < znf c → ∀ b, b < znf c → a ≠ b → (zTT c a).2.1 ≠ (zTT c b).2.1
  | 0, _ => nmX0 | 1, _ => nmX1 | 2, _ => nmX2 | 3, _ => nmX3 | 4, _ => nmX4 | 5, _ => nmX5 | 6, _ => nmX6 | 7, _ => nmX7 | 8, _ => nmX8 | 9, _ => nmX9
  | c + 10, h => absurd h (by omega)
/-- a field's kind by its type -/
def zdt (t : FieldType) : Nat := match t with
  | .int => 0
  | .boolean => 0
  | .long => 1
  | .object _ => 2
  | .array _ => 2
  | _ => 9
theorem zdt_ok : ∀ c, c < 10 → ∀ k, k < znf c → zdt (zty c k) = zft c k := by decide +kernel
theorem zfin_ok : ∀ c, c < 10 → ∀ k, k < znf c → (zTT c k).2.2.2 = zfin c k ∧ (zTT c k).1 = zcnm c := by decide +kernel
def zisb (t : FieldType) : Bool := match t with
  | .boolean => true
  | _ => false
theorem zboo_ok : ∀ c, c < 10 → ∀ k, k < znf c → zisb (zty c k) = zboo c k := by decide +kernel
theorem zdef (b : Nat) {t : FieldType} (h : zdt t < 3) : defaultValue t = zv b (zdt t, 0) := by
  cases t <;> first | rfl | (exact absurd h (by decide))
/-- what stands in a field: of its type -/
theorem znarrow {b : Nat} {t : FieldType} {x : Int} (h : zdt t < 3) (hb : zisb t = true → x = 0 ∨ x = 1) : narrow t (zv b (zdt t, x)) = zv b (zdt t, x) ∧ fits t (zv b (zdt t, x)) = true := by
  cases t with
  | int => exact ⟨rfl, rfl⟩
  | long => exact ⟨rfl, rfl⟩
  | boolean =>
    rcases hb rfl with rfl | rfl
    · exact ⟨by rfl, by rfl⟩
    · exact ⟨by rfl, by rfl⟩
  | object C =>
    show narrow _ (if x ≤ 0 then Value.null else Value.ref (b + x.toNat)) = (if x ≤ 0 then Value.null else Value.ref (b + x.toNat)) ∧ fits _ (if x ≤ 0 then Value.null else Value.ref (b + x.toNat)) = true
    split <;> exact ⟨rfl, rfl⟩
  | array C =>
    show narrow _ (if x ≤ 0 then Value.null else Value.ref (b + x.toNat)) = (if x ≤ 0 then Value.null else Value.ref (b + x.toNat)) ∧ fits _ (if x ≤ 0 then Value.null else Value.ref (b + x.toNat)) = true
    split <;> exact ⟨rfl, rfl⟩
  | _ => exact absurd h (by decide)
theorem zset_map {α : Type} (N k : Nat) (g : Nat → α) (v : α) : ((List.range N).map g).set k v = (List.range N).map (fun j => if j = k then v else g j) := by
  apply List.ext_getElem?
  intro i
  rw [List.getElem?_set, List.length_map, List.length_range, List.getElem?_map, List.getElem?_map]
  rcases Nat.lt_or_ge i N with h | h
  · rw [List.getElem?_range h]
    split
    · rename_i e; subst e; simp [h]
    · rename_i e; simp [Ne.symm e]
  · rw [List.getElem?_eq_none (by simpa using h)]
    split
    · rename_i e; subst e; simp [Nat.not_lt.mpr h]
    · rfl
section ZR2
variable {l : Launch} {b : Nat} {D : va_G} {cA cN : ClassId} {k : Nat} {n0 : Int} {Q : zQ} {pc nx : Nat} {L L' st st' r : List zV} {n : Int} {M M' : zM} {p : Program} {e : Env} {s : State} {m : MethodId} {args : Array Value} {below : List Frame} {meth : Method} {c : Code} {H H1 : Heap} {locs locs1 : List Loc} {cells slots : Nat} {ls : Array Slot}
theorem zVr_mem (V : zVr b D cA cN k n0 L st n M s H locs cells slots ls) (hR : zRel b D cA cN n M' H1) (hS : va_S (fun q => b + 1 ≤ q) s.heap H1 locs1) (hs : zsr n st') : zVr b D cA cN k n0 L st' n M' s H1 locs1 cells slots ls := by
  obtain ⟨a1, a2, a3, a4, -, -, a7, a8, a9, -⟩ := V
  exact ⟨a1, a2, a3, a4, hR, hS, a7, a8, a9, hs⟩
theorem zobj {a : Int} {ci : Nat} (h1 : 1 ≤ a) (h2 : a ≤ n) (hk : zKT a = (2, ci)) : (zws b cA cN n M)[a.toNat - 1]? = some (b + a.toNat, .inr (ci, (List.range (znf ci)).map (fun (j : Nat) => zv b (zft ci j, M a j)))) := by
  rw [zws_at h1 h2, hk]; rfl
theorem zarr {a : Int} (h1 : 1 ≤ a) (h2 : a ≤ n) (hk : (zKT a).1 = 0) : (zws b cA cN n M)[a.toNat - 1]? = some (b + a.toNat, .inl (cA, (zKT a).2, .inl (fun (j : Nat) => Int32.ofInt (M a j)))) := by
  rw [zws_at h1 h2]
  rcases hq : zKT a with ⟨u, v⟩
  rw [hq] at hk
  dsimp only at hk
  subst hk
  rfl
theorem zarq {a : Int} (h1 : 1 ≤ a) (h2 : a ≤ n) (hk : (zKT a).1 = 1) : (zws b cA cN n M)[a.toNat - 1]? = some (b + a.toNat, .inl (cN, (zKT a).2, .inr (.inr (.inr (.inr (fun (j : Nat) => if M a j ≤ 0 then none else some (b + (M a j).toNat))))))) := by
  rw [zws_at h1 h2]
  rcases hq : zKT a with ⟨u, v⟩
  rw [hq] at hk
  dsimp only at hk
  subst hk
  rfl
theorem zo_getfield {ci fk i : Nat} {a : Int} (F : zFx b D cA cN k n0 Q p s m args meth c) (V : zVr b D cA cN k n0 L ((2, a) :: r) n M s H locs cells slots ls) (hdg : decode (zb k) pc = .ok (.getfield i, 3)) (hw : Cond.fieldLink (zcnm (zoc k)) i (zcnm ci) (zTT ci fk).2.1 (zTT ci fk).2.2.1 ∈ zwl) (hc : ci < 10) (hf : fk < znf ci) (hk : zKT a = (2, ci)) (h : zP l b D cA cN k n0 Q (pc + 3) L ((zft ci fk, M a fk) :: r) n M) : zGo l b D cA cN k Q p e s m args below meth c H locs cells slots (F0 m pc ls (((2, a) :: r).map (zv b))) := by
  have hst := zsr_c.mp (zVr_sr V)
  have ha : 0 < a := zKT_pos (by rw [hk]; first | decide | exact (show (2 : Nat) ≠ 9 by decide))
  have hn : a ≤ n := hst.1.1.2
  obtain ⟨r1, r2, r3, r4⟩ := zVr_rel V
  have hv : ((List.range (znf ci)).map (fun (j : Nat) => zv b (zft ci j, M a j)))[fk]? = some (zv b (zft ci fk, M a fk)) := by rw [List.getElem?_map, List.getElem?_range hf]; rfl
  have hz : zr n (zft ci fk, M a fk) := by
    have := r3 a fk (by omega) hn (by omega)
    rw [hk] at this
    exact this
  refine zstk h F V (zsr_c.mpr ⟨⟨hz, zft_lt ci fk⟩, hst.2⟩) (fun g => ?_)
  rw [List.map_cons, zv_ref b ha]
  exact va_get F.2.1 F.2.2.1 F.2.2.2.2.2.2.2.2.1 (zlay_in ci hc) F.2.2.2.2.2.1 F.2.2.2.2.2.2.2.2.2.1.1 r2 (a.toNat - 1) (zobj (by omega) hn hk) (zcls_at ci hc) fk hf (F.2.2.2.2.2.2.2.2.1 _ hw) (fun x hx => by rw [(zfin_ok ci hc fk hf).2] at hx; exact hx) hv hdg g
theorem zo_putfield {ci fk i t : Nat} {a x : Int} (F : zFx b D cA cN k n0 Q p s m args meth c) (V : zVr b D cA cN k n0 L ((t, x) :: (2, a) :: r) n M s H locs cells slots ls) (hdg : decode (zb k) pc = .ok (.putfield i, 3)) (hw : Cond.fieldLink (zcnm (zoc k)) i (zcnm ci) (zTT ci fk).2.1 (zTT ci fk).2.2.1 ∈ zwl) (hc : ci < 10) (hf : fk < znf ci) (hfin : zfin ci fk = true → zini k = true ∧ ci = zoc k) (ht : zft ci fk = t) (hb : zboo ci fk = true → x = 0 ∨ x = 1) (hk : zKT a = (2, ci)) (h : zP l b D cA cN k n0 Q (pc + 3) L r n (zset M a fk x)) : zGo l b D cA cN k Q p e s m args below meth c H locs cells slots (F0 m pc ls (((t, x) :: (2, a) :: r).map (zv b))) := by
  subst ht
  have hst := zsr_c.mp (zVr_sr V)
  have hst2 := zsr_c.mp hst.2
  have ha : 0 < a := zKT_pos (by rw [hk]; first | decide | exact (show (2 : Nat) ≠ 9 by decide))
  have hn : a ≤ n := hst2.1.1.2
  obtain ⟨r1, r2, r3, r4⟩ := zVr_rel V
  have hd := zdt_ok ci hc fk hf
  have hna := znarrow (b := b) (t := zty ci fk) (x := x) (by rw [hd]; exact zft_lt ci fk) (fun q => hb (by rw [← zboo_ok ci hc fk hf]; exact q))
  rw [hd] at hna
  have hset : ∀ H1 : Heap, va_P D zcls ((zws b cA cN n M).set (a.toNat - 1) (b + a.toNat, .inr (ci, ((List.range (znf ci)).map (fun (j : Nat) => zv b (zft ci j, M a j))).set fk (zv b (zft ci fk, x))))) H1 → zRel b D cA cN n (zset M a fk x) H1 := by
    intro H1 hP1
    refine ⟨r1, ?_, zRM_set r3 (by rw [hk]; exact hst.1.1), zset_z r4 hn⟩
    rw [zws_set (M' := zset M a fk x) (by omega) hn ?_ (zset_row M a fk x)] at hP1
    · exact hP1
    · rw [hk, zset_map, zset_at]
      show Sum.inr _ = Sum.inr _
      congr 2
      apply List.map_congr_left
      intro j _
      by_cases q : j = fk
      · subst q; simp
      · rw [if_neg q]
        dsimp only
        rw [if_neg (by omega)]
  have hlen : fk < ((List.range (znf ci)).map (fun (j : Nat) => zv b (zft ci j, M a j))).length := by simpa using hf
  rw [List.map_cons, List.map_cons, zv_ref b ha]
  by_cases q : zfin ci fk = true
  · obtain ⟨q1, q2⟩ := hfin q
    exact va_putF F.2.1 F.2.2.1 F.2.2.2.2.2.2.2.2.1 (zlay_in ci hc) (zty ci) (zty_ok ci hc) (znm_ok ci hc) F.2.2.2.2.2.1 F.2.2.2.2.2.2.2.2.2.1.1 r2 zws_D (zVr_S V) (a.toNat - 1) (zobj (by omega) hn hk) (zcls_at ci hc) fk hf (F.2.2.2.2.2.2.2.2.1 _ hw) (fun x hx => by rw [(zfin_ok ci hc fk hf).2] at hx; exact hx) (by rw [(zfin_ok ci hc fk hf).1]; exact q) (F.2.2.2.2.2.2.1 q1) (by rw [(zfin_ok ci hc fk hf).2, q2]) (zty_ok ci hc fk hf) hna.1 hna.2 hlen hdg
      (fun H1 locs1 hP1 _ hS1 => h p e s m args below meth c H1 locs1 cells slots ls F (zVr_mem V (hset H1 hP1) hS1 hst2.2))
  · exact va_put F.2.1 F.2.2.1 F.2.2.2.2.2.2.2.2.1 (zlay_in ci hc) (zty ci) (zty_ok ci hc) (znm_ok ci hc) F.2.2.2.2.2.1 F.2.2.2.2.2.2.2.2.2.1.1 r2 zws_D (zVr_S V) (a.toNat - 1) (zobj (by omega) hn hk) (zcls_at ci hc) fk hf (F.2.2.2.2.2.2.2.2.1 _ hw) (fun x hx => by rw [(zfin_ok ci hc fk hf).2] at hx; exact hx) (by rw [(zfin_ok ci hc fk hf).1]; simpa using q) (zty_ok ci hc fk hf) hna.1 hna.2 hlen hdg
      (fun H1 locs1 hP1 _ hS1 => h p e s m args below meth c H1 locs1 cells slots ls F (zVr_mem V (hset H1 hP1) hS1 hst2.2))
theorem zo_iaload {a j : Int} (F : zFx b D cA cN k n0 Q p s m args meth c) (V : zVr b D cA cN k n0 L ((0, j) :: (2, a) :: r) n M s H locs cells slots ls) (hdg : decode (zb k) pc = .ok (.iaload, 1)) (hk : (zKT a).1 = 0) (h0 : 0 ≤ j) (h1 : j < (zKT a).2) (h : zP l b D cA cN k n0 Q (pc + 1) L ((0, M a j) :: r) n M) : zGo l b D cA cN k Q p e s m args below meth c H locs cells slots (F0 m pc ls (((0, j) :: (2, a) :: r).map (zv b))) := by
  have hst := zsr_c.mp (zVr_sr V)
  have hst2 := zsr_c.mp hst.2
  have ha : 0 < a := zKT_pos (by rw [hk]; first | decide | exact (show (2 : Nat) ≠ 9 by decide))
  have hn : a ≤ n := hst2.1.1.2
  obtain ⟨r1, r2, r3, r4⟩ := zVr_rel V
  have hz : zr n (0, M a j) := by
    have := r3 a j (by omega) hn h0
    unfold zmt at this
    rw [hk] at this
    exact this
  obtain ⟨hi, he⟩ := zcl_n h0 h1 hst.1.1
  refine zstk h F V (zsr_c.mpr ⟨⟨hz, by dsimp only; omega⟩, hst2.2⟩) (fun g => ?_)
  rw [List.map_cons, List.map_cons, zv_ref b ha]
  refine va_iald F.2.1 F.2.2.1 F.2.2.2.2.2.2.2.2.2.1.1 r2 (a.toNat - 1) 0 (zarr (by omega) hn hk) rfl hi hdg ?_
  rw [he, show ((j.toNat : Nat) : Int) = j by omega]
  exact g
theorem zo_iastore {a j x : Int} (F : zFx b D cA cN k n0 Q p s m args meth c) (V : zVr b D cA cN k n0 L ((0, x) :: (0, j) :: (2, a) :: r) n M s H locs cells slots ls) (hdg : decode (zb k) pc = .ok (.iastore, 1)) (hk : (zKT a).1 = 0) (h0 : 0 ≤ j) (h1 : j < (zKT a).2) (h : zP l b D cA cN k n0 Q (pc + 1) L r n (zset M a j x)) : zGo l b D cA cN k Q p e s m args below meth c H locs cells slots (F0 m pc ls (((0, x) :: (0, j) :: (2, a) :: r).map (zv b))) := by
  have hst := zsr_c.mp (zVr_sr V)
  have hst1 := zsr_c.mp hst.2
  have hst2 := zsr_c.mp hst1.2
  have ha : 0 < a := zKT_pos (by rw [hk]; first | decide | exact (show (2 : Nat) ≠ 9 by decide))
  have hn : a ≤ n := hst2.1.1.2
  obtain ⟨r1, r2, r3, r4⟩ := zVr_rel V
  obtain ⟨hi, he⟩ := zcl_n h0 h1 hst1.1.1
  rw [List.map_cons, List.map_cons, List.map_cons, zv_ref b ha]
  refine va_iast F.2.1 F.2.2.1 F.2.2.2.2.2.2.2.2.2.1.1 r2 zws_D (zVr_S V) (a.toNat - 1) 0 (zarr (by omega) hn hk) rfl hi hdg (fun H1 locs1 hP1 _ hS1 => ?_)
  refine h p e s m args below meth c H1 locs1 cells slots ls F (zVr_mem V ⟨r1, ?_, zRM_set r3 (by unfold zmt; rw [hk]; exact hst.1.1), zset_z r4 hn⟩ hS1 hst2.2)
  rw [zws_set (M' := zset M a j x) (by omega) hn ?_ (zset_row M a j x)] at hP1
  · exact hP1
  · rcases hq : zKT a with ⟨u, v⟩
    rw [hq] at hk
    dsimp only at hk
    subst hk
    show Sum.inl _ = Sum.inl _
    rw [he, zset_at]
    congr 4
    funext i
    unfold upd
    by_cases q : i = j.toNat
    · rw [if_pos q]
      dsimp only
      rw [if_pos (by omega)]
    · rw [if_neg q]
      dsimp only
      rw [if_neg (by omega)]
theorem zo_arraylength {a : Int} (F : zFx b D cA cN k n0 Q p s m args meth c) (V : zVr b D cA cN k n0 L ((2, a) :: r) n M s H locs cells slots ls) (hdg : decode (zb k) pc = .ok (.arraylength, 1)) (hk : (zKT a).1 = 0) (hl : (zKT a).2 < 2147483648) (h : zP l b D cA cN k n0 Q (pc + 1) L ((0, (zKT a).2) :: r) n M) : zGo l b D cA cN k Q p e s m args below meth c H locs cells slots (F0 m pc ls (((2, a) :: r).map (zv b))) := by
  have hst := zsr_c.mp (zVr_sr V)
  have ha : 0 < a := zKT_pos (by rw [hk]; first | decide | exact (show (2 : Nat) ≠ 9 by decide))
  have hn : a ≤ n := hst.1.1.2
  obtain ⟨r1, r2, r3, r4⟩ := zVr_rel V
  refine zstk h F V (zsr_c.mpr ⟨⟨⟨by dsimp only; omega, by dsimp only; omega⟩, by dsimp only; omega⟩, hst.2⟩) (fun g => ?_)
  rw [List.map_cons, zv_ref b ha]
  exact va_alen F.2.1 F.2.2.1 F.2.2.2.2.2.2.2.2.2.1.1 r2 (a.toNat - 1) 0 (zarr (by omega) hn hk) rfl rfl hdg g
theorem zo_aaload {a j : Int} (F : zFx b D cA cN k n0 Q p s m args meth c) (V : zVr b D cA cN k n0 L ((0, j) :: (2, a) :: r) n M s H locs cells slots ls) (hdg : decode (zb k) pc = .ok (.aaload, 1)) (hk : (zKT a).1 = 1) (h0 : 0 ≤ j) (h1 : j < (zKT a).2) (h : zP l b D cA cN k n0 Q (pc + 1) L ((2, M a j) :: r) n M) : zGo l b D cA cN k Q p e s m args below meth c H locs cells slots (F0 m pc ls (((0, j) :: (2, a) :: r).map (zv b))) := by
  have hst := zsr_c.mp (zVr_sr V)
  have hst2 := zsr_c.mp hst.2
  have ha : 0 < a := zKT_pos (by rw [hk]; first | decide | exact (show (2 : Nat) ≠ 9 by decide))
  have hn : a ≤ n := hst2.1.1.2
  obtain ⟨r1, r2, r3, r4⟩ := zVr_rel V
  have hz : zr n (2, M a j) := by
    have := r3 a j (by omega) hn h0
    unfold zmt at this
    rw [hk] at this
    exact this
  obtain ⟨hi, he⟩ := zcl_n h0 h1 hst.1.1
  refine zstk h F V (zsr_c.mpr ⟨⟨hz, by dsimp only; omega⟩, hst2.2⟩) (fun g => ?_)
  rw [List.map_cons, List.map_cons, zv_ref b ha]
  refine va_aldq F.2.1 F.2.2.1 F.2.2.2.2.2.2.2.2.2.1.1 r2 (a.toNat - 1) 1 (zarq (by omega) hn hk) rfl hi hdg ?_
  rw [he, show ((j.toNat : Nat) : Int) = j by omega]
  have e1 : va_rf (if M a j ≤ 0 then none else some (b + (M a j).toNat)) = zv b (2, M a j) := by
    show _ = (if M a j ≤ 0 then Value.null else Value.ref (b + (M a j).toNat))
    split <;> rfl
  rw [e1]
  exact g
theorem zo_aastore {a j x : Int} (F : zFx b D cA cN k n0 Q p s m args meth c) (V : zVr b D cA cN k n0 L ((2, x) :: (0, j) :: (2, a) :: r) n M s H locs cells slots ls) (hdg : decode (zb k) pc = .ok (.aastore, 1)) (hk : (zKT a).1 = 1) (h0 : 0 ≤ j) (h1 : j < (zKT a).2) (hx : zKT x = (2, 1)) (h : zP l b D cA cN k n0 Q (pc + 1) L r n (zset M a j x)) : zGo l b D cA cN k Q p e s m args below meth c H locs cells slots (F0 m pc ls (((2, x) :: (0, j) :: (2, a) :: r).map (zv b))) := by
  have hst := zsr_c.mp (zVr_sr V)
  have hst1 := zsr_c.mp hst.2
  have hst2 := zsr_c.mp hst1.2
  have ha : 0 < a := zKT_pos (by rw [hk]; first | decide | exact (show (2 : Nat) ≠ 9 by decide))
  have hx0 : 0 < x := zKT_pos (by rw [hx]; decide)
  have hn : a ≤ n := hst2.1.1.2
  have hxn : x ≤ n := hst.1.1.2
  obtain ⟨r1, r2, r3, r4⟩ := zVr_rel V
  obtain ⟨hi, he⟩ := zcl_n h0 h1 hst1.1.1
  rw [List.map_cons, List.map_cons, List.map_cons, zv_ref b ha, zv_ref b hx0]
  refine va_astq F.2.1 F.2.2.1 F.2.2.2.2.2.2.2.2.2.1.1 r2 zws_D (zVr_S V) (a.toNat - 1) 1 (x.toNat - 1) 1 (r := (zcnm 1, zTT 1, znf 1)) (zarq (by omega) hn hk) rfl (zobj (by omega) hxn hx) (zcls_at 1 (by decide)) hi hdg (fun H1 locs1 hP1 _ hS1 => ?_)
  refine h p e s m args below meth c H1 locs1 cells slots ls F (zVr_mem V ⟨r1, ?_, zRM_set r3 (by unfold zmt; rw [hk]; exact hst.1.1), zset_z r4 hn⟩ hS1 hst2.2)
  rw [zws_set (M' := zset M a j x) (by omega) hn ?_ (zset_row M a j x)] at hP1
  · exact hP1
  · rcases hq : zKT a with ⟨u, v⟩
    rw [hq] at hk
    dsimp only at hk
    subst hk
    show Sum.inl _ = Sum.inl _
    rw [he, zset_at]
    congr 7
    funext i
    unfold va_up
    by_cases q : i = j.toNat
    · rw [if_pos q]
      dsimp only
      have e2 : (i : Int) = j := by omega
      simp [e2, show ¬ x ≤ 0 by omega]
    · rw [if_neg q]
      dsimp only
      have e2 : ¬ (i : Int) = j := by omega
      simp [e2]
end ZR2
