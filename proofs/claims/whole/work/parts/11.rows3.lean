/-! making cells, copying, returns, tables of targets -/
theorem zsize {p : Program} {l : Launch} {e : Env} {R : Room} {s : State} {m : MethodId} {args : Array Value} {below : List Frame} {meth : Method} {c : Code} {H : Heap} {locs : List Loc} {cells slots : Nat} {Qs : State → Prop} {g : JFrame} (kk : H.size ≤ s.heap.size + cells → W p l e R s m args below meth c H locs cells slots Qs g) : W p l e R s m args below meth c H locs cells slots Qs g :=
  fun T hT X => kk (by rw [← hT]; exact X.heapSize) T hT X
theorem zfresh {b : Nat} {D : va_G} {cA cN : ClassId} {n n0 : Int} {M : zM} {q : Nat} {x : va_E} {H1 : Heap} {sz cells : Nat} (h0 : 0 ≤ n) (hP : va_P D zcls (zws b cA cN n M ++ [(q, x)]) H1) (hD : va_D (fun q => b + 1 ≤ q) (zws b cA cN n M ++ [(q, x)])) (hz : H1.size ≤ sz + (cells + 1)) (hs : (sz : Int) = b + 1 + n0) (hn : n = n0 + cells) : q = b + (n + 1).toNat := by
  have hl : (zws b cA cN n M).length = n.toNat := by simp [zws]
  have e1 : (zws b cA cN n M ++ [(q, x)])[n.toNat]? = some (q, x) := by rw [List.getElem?_append_right (by omega), hl]; simp
  have g1 : q < H1.size := (hP n.toNat _ e1).lt
  have g2 : b + 1 ≤ q := hD.2 n.toNat _ e1
  rcases Nat.lt_or_ge q (b + 1 + n.toNat) with g3 | g3
  · exfalso
    have e2 : (zws b cA cN n M ++ [(q, x)])[q - b - 1]? = some (q, zE b cA cN (zKT ((q - b - 1 : Nat) + 1)) (M ((q - b - 1 : Nat) + 1))) := by
      rw [List.getElem?_append_left (by omega)]
      have := zws_at (b := b) (cA := cA) (cN := cN) (n := n) (a := ((q - b - 1 : Nat) : Int) + 1) (M := M) (by omega) (by omega)
      rw [show (((q - b - 1 : Nat) : Int) + 1).toNat - 1 = q - b - 1 by omega, show b + (((q - b - 1 : Nat) : Int) + 1).toNat = q by omega] at this
      exact this
    have := hD.1 _ _ _ _ e1 e2 rfl
    omega
  · omega
section ZR3
variable {l : Launch} {b : Nat} {D : va_G} {cA cN : ClassId} {k : Nat} {n0 : Int} {Q : zQ} {pc nx : Nat} {L L' st st' r : List zV} {n : Int} {M M' : zM} {p : Program} {e : Env} {s : State} {m : MethodId} {args : Array Value} {below : List Frame} {meth : Method} {c : Code} {H H1 : Heap} {locs locs1 : List Loc} {cells slots : Nat} {ls : Array Slot}
theorem zsl_up {a : Int} (h : 0 ≤ a) : zsl (a + 1) = zsl a + zsz (zKT (a + 1)) := by
  match a, h with
  | .ofNat j, _ =>
    show ((zKl.take (((Int.ofNat j) + 1).toNat + 1)).map zsz).sum = ((zKl.take ((Int.ofNat j).toNat + 1)).map zsz).sum + zsz (zKl.getD (j + 1) (9, 0))
    have e1 : ((Int.ofNat j) + 1).toNat = j + 1 := rfl
    have e2 : (Int.ofNat j).toNat = j := rfl
    rw [e1, e2, List.take_add_one, List.map_append, List.sum_append, List.getD_eq_getElem?_getD]
    congr 1
    cases zKl[j + 1]? <;> simp [zsz]
theorem zVr_new {q : Nat × Nat} (V : zVr b D cA cN k n0 L st n M s H locs cells slots ls) (hK : zKT (n + 1) = q) (hc : cells + 1 ≤ zmc k) (hs : slots + zsz q ≤ zms k) (hP : va_P D zcls (zws b cA cN n M ++ [(b + (n + 1).toNat, zE b cA cN (zKT (n + 1)) (M (n + 1)))]) H1) (hS : va_S (fun q => b + 1 ≤ q) s.heap H1 locs) (hst : zsr n st') : zVr b D cA cN k n0 L ((2, n + 1) :: st') (n + 1) M s H1 locs (cells + 1) (slots + zsz q) ls := by
  obtain ⟨a1, a2, a3, a4, ⟨r1, r2, r3, r4⟩, a6, a7, a8, a9, -⟩ := V
  refine ⟨by omega, by rw [zsl_up r1, a2, hK]; omega, hc, hs, ⟨by omega, by rw [zws_push r1]; exact hP, ?_, fun a j h => r4 a j (by omega)⟩, hS, a7, a8, fun v hv => zr_up (by omega) (a9 v hv), zsr_c.mpr ⟨⟨⟨by dsimp only; omega, by dsimp only; omega⟩, by dsimp only; omega⟩, fun v hv => ⟨zr_up (by omega) (hst v hv).1, (hst v hv).2⟩⟩⟩
  intro a j h1 h2 h3
  by_cases q2 : a ≤ n
  · exact zr_up (by omega) (r3 a j h1 q2 h3)
  · rw [r4 a j (by omega)]
    exact zr_0 (by omega) _
theorem zo_new {ci i : Nat} (F : zFx b D cA cN k n0 Q p s m args meth c) (V : zVr b D cA cN k n0 L st n M s H locs cells slots ls) (hdg : decode (zb k) pc = .ok (.new i, 3)) (hw : Cond.classLink (zcnm (zoc k)) i (zcnm ci) ∈ zwl) (hc : ci < 10) (hk : zKT (n + 1) = (2, ci)) (h1 : n + 1 ≤ n0 + zmc k) (h2 : zsl (n + 1) ≤ zsl n0 + zms k) (h : zP l b D cA cN k n0 Q (pc + 3) L ((2, n + 1) :: st) (n + 1) M) : zGo l b D cA cN k Q p e s m args below meth c H locs cells slots (F0 m pc ls (st.map (zv b))) := by
  obtain ⟨a1, a2, a3, a4, ⟨r1, r2, r3, r4⟩, a6, a7, a8, a9, a10⟩ := id V
  have hc1 : cells + 1 ≤ zmc k := by omega
  have hs1 : slots + znf ci ≤ zms k := by rw [zsl_up r1, a2, hk] at h2; simp only [zsz] at h2; omega
  have hA : ∀ q, s.heap.size ≤ q → b + 1 ≤ q := fun q hq => by have := F.2.2.2.2.2.2.2.2.2.2.1; have := F.2.2.2.2.2.2.2.2.2.2.2.1; omega
  have hfs : ∀ j, j < znf ci → defaultValue (zty ci j) = vp_V ((List.range (znf ci)).map (fun (j : Nat) => zv b (zft ci j, 0))) j := by
    intro j hj
    have hd := zdt_ok ci hc j hj
    rw [zdef b (by rw [hd]; exact zft_lt ci j), hd]
    unfold vp_V
    rw [List.getD_eq_getElem?_getD, List.getElem?_map, List.getElem?_range hj]
    rfl
  refine va_new F.2.1 F.2.2.1 F.2.2.2.2.2.2.2.2.1 (zlay_in ci hc) (zty ci) (zty_ok ci hc) F.2.2.2.2.2.1 (F.2.2.2.2.2.2.2.2.1 _ hw) (F.2.2.2.2.2.2.2.2.1 _ (zinst_in ci hc)) (F.2.2.2.2.2.2.2.2.1 _ (zinw_in ci (by omega))) F.2.2.2.2.2.2.2.2.2.1.1 r2 zws_D a6 hA (zcls_at ci hc) hfs hc1 hs1 hdg (fun q H1 hP1 hD1 hS1 => ?_)
  refine zsize (fun hz => ?_)
  have hq := zfresh r1 hP1 hD1 hz F.2.2.2.2.2.2.2.2.2.2.1 a1
  subst hq
  have hM : M (n + 1) = fun _ => 0 := by funext j; exact r4 (n + 1) j (by omega)
  have hE : zE b cA cN (zKT (n + 1)) (M (n + 1)) = .inr (ci, (List.range (znf ci)).map (fun (j : Nat) => zv b (zft ci j, 0))) := by rw [hk, hM]; rfl
  rw [← hE] at hP1
  have := h p e s m args below meth c H1 locs (cells + 1) (slots + znf ci) ls F (zVr_new V hk hc1 hs1 hP1 hS1 a10)
  rw [List.map_cons, zv_ref b (by omega)] at this
  exact this
theorem zo_newarray {x : Int} (F : zFx b D cA cN k n0 Q p s m args meth c) (V : zVr b D cA cN k n0 L ((0, x) :: r) n M s H locs cells slots ls) (hdg : decode (zb k) pc = .ok (.newarray .int, 2)) (hk : zKT (n + 1) = (0, x.toNat)) (hx : 0 ≤ x) (hx2 : x ≤ 1000) (h1 : n + 1 ≤ n0 + zmc k) (h2 : zsl (n + 1) ≤ zsl n0 + zms k) (h : zP l b D cA cN k n0 Q (pc + 2) L ((2, n + 1) :: r) (n + 1) M) : zGo l b D cA cN k Q p e s m args below meth c H locs cells slots (F0 m pc ls (((0, x) :: r).map (zv b))) := by
  obtain ⟨a1, a2, a3, a4, ⟨r1, r2, r3, r4⟩, a6, a7, a8, a9, a10⟩ := id V
  have hc1 : cells + 1 ≤ zmc k := by omega
  have hs1 : slots + x.toNat ≤ zms k := by rw [zsl_up r1, a2, hk] at h2; simp only [zsz] at h2; omega
  have hA : ∀ q, s.heap.size ≤ q → b + 1 ≤ q := fun q hq => by have := F.2.2.2.2.2.2.2.2.2.2.1; have := F.2.2.2.2.2.2.2.2.2.2.2.1; omega
  have e1 : (Int32.ofInt x).toInt = x := z32_ti ⟨by omega, by omega⟩
  have e2 : (Int32.ofInt x).toNatClampNeg = x.toNat := by show (Int32.ofInt x).toInt.toNat = _; rw [e1]
  have e3 : ¬ Int32.ofInt x < 0 := by rw [Int32.lt_iff_toInt_lt, e1]; simp; omega
  have hK := F.2.2.2.2.2.2.2.2.2.1.1
  refine va_newa (atype := .int) (ty := .int) (a0 := (x.toNat, .inl (fun _ => 0))) F.2.1 F.2.2.1 (F.2.2.2.2.2.2.2.2.1 _ zmi_5) rfl hK r2 zws_D a6 hA (fun _ => rfl) e3 e2 (by show x.toNat * 4 ≤ 536870912; omega) hc1 hs1 hdg (fun q cA' H1 hK1 hP1 hD1 hS1 => ?_)
  have hcc : cA' = cA := by
    have g1 : s.vm.findClass ("[" ++ FieldType.int.toString) = some cA' := (hK1.2 2 _ rfl).2
    have g2 : s.vm.findClass ("[" ++ FieldType.int.toString) = some cA := (hK.2 0 _ rfl).2
    exact Option.some.inj (g1.symm.trans g2)
  subst hcc
  refine zsize (fun hz => ?_)
  have hq := zfresh r1 hP1 hD1 hz F.2.2.2.2.2.2.2.2.2.2.1 a1
  subst hq
  have hM : M (n + 1) = fun _ => 0 := by funext j; exact r4 (n + 1) j (by omega)
  have hE : zE b cA' cN (zKT (n + 1)) (M (n + 1)) = .inl (cA', x.toNat, .inl (fun _ => 0)) := by rw [hk, hM]; rfl
  rw [← hE] at hP1
  have := h p e s m args below meth c H1 locs (cells + 1) (slots + x.toNat) ls F (zVr_new V hk hc1 hs1 hP1 hS1 (zsr_c.mp a10).2)
  rw [List.map_cons, zv_ref b (by omega)] at this
  exact this
theorem zo_anewarray {x : Int} {i : Nat} (F : zFx b D cA cN k n0 Q p s m args meth c) (V : zVr b D cA cN k n0 L ((0, x) :: r) n M s H locs cells slots ls) (hdg : decode (zb k) pc = .ok (.anewarray i, 3)) (hw : Cond.classLink (zcnm (zoc k)) i "TieOffice$Net" ∈ zwl) (hk : zKT (n + 1) = (1, x.toNat)) (hx : 0 ≤ x) (hx2 : x ≤ 1000) (h1 : n + 1 ≤ n0 + zmc k) (h2 : zsl (n + 1) ≤ zsl n0 + zms k) (h : zP l b D cA cN k n0 Q (pc + 3) L ((2, n + 1) :: r) (n + 1) M) : zGo l b D cA cN k Q p e s m args below meth c H locs cells slots (F0 m pc ls (((0, x) :: r).map (zv b))) := by
  obtain ⟨a1, a2, a3, a4, ⟨r1, r2, r3, r4⟩, a6, a7, a8, a9, a10⟩ := id V
  have hc1 : cells + 1 ≤ zmc k := by omega
  have hs1 : slots + x.toNat ≤ zms k := by rw [zsl_up r1, a2, hk] at h2; simp only [zsz] at h2; omega
  have hA : ∀ q, s.heap.size ≤ q → b + 1 ≤ q := fun q hq => by have := F.2.2.2.2.2.2.2.2.2.2.1; have := F.2.2.2.2.2.2.2.2.2.2.2.1; omega
  have e1 : (Int32.ofInt x).toInt = x := z32_ti ⟨by omega, by omega⟩
  have e2 : (Int32.ofInt x).toNatClampNeg = x.toNat := by show (Int32.ofInt x).toInt.toNat = _; rw [e1]
  have e3 : ¬ Int32.ofInt x < 0 := by rw [Int32.lt_iff_toInt_lt, e1]; simp; omega
  have hK := F.2.2.2.2.2.2.2.2.2.1.1
  refine va_newq F.2.1 F.2.2.1 F.2.2.2.2.2.1 (F.2.2.2.2.2.2.2.2.1 _ hw) F.2.2.2.2.2.2.2.2.2.1.2.1 hK r2 zws_D a6 hA e3 e2 (by omega) hc1 hs1 hdg (fun q cA' H1 hK1 hP1 hD1 hS1 => ?_)
  have hcc : cA' = cN := by
    obtain ⟨_, _, _, _, _, g1⟩ := (hK1.2 2 _ rfl).2
    obtain ⟨_, _, _, _, _, g2⟩ := (hK.2 1 _ rfl).2
    exact Option.some.inj (g1.symm.trans g2)
  subst hcc
  refine zsize (fun hz => ?_)
  have hq := zfresh r1 hP1 hD1 hz F.2.2.2.2.2.2.2.2.2.2.1 a1
  subst hq
  have hM : M (n + 1) = fun _ => 0 := by funext j; exact r4 (n + 1) j (by omega)
  have hE : zE b cA cA' (zKT (n + 1)) (M (n + 1)) = .inl (cA', x.toNat, .inr (.inr (.inr (.inr (fun _ => none))))) := by rw [hk, hM]; rfl
  rw [← hE] at hP1
  have := h p e s m args below meth c H1 locs (cells + 1) (slots + x.toNat) ls F (zVr_new V hk hc1 hs1 hP1 hS1 (zsr_c.mp a10).2)
  rw [List.map_cons, zv_ref b (by omega)] at this
  exact this
theorem zo_arraycopy {i : Nat} {q sp d dp x : Int} (F : zFx b D cA cN k n0 Q p s m args meth c) (V : zVr b D cA cN k n0 L ((0, x) :: (0, dp) :: (2, d) :: (0, sp) :: (2, q) :: r) n M s H locs cells slots ls) (hdg : decode (zb k) pc = .ok (.invokestatic i, 3)) (hw : Cond.methodLink (zcnm (zoc k)) i arraycopyName ∈ zwl) (h1 : (zKT q).1 = 0) (h2 : (zKT d).1 = 0) (h3 : 0 ≤ sp) (h4 : 0 ≤ dp) (h5 : 0 ≤ x) (h6 : sp + x ≤ (zKT q).2) (h7 : dp + x ≤ (zKT d).2) (h8 : zcats r ≤ 8) (h9 : 1 ≤ zfr k) (h10 : 26 ≤ zlo k) (h : zP l b D cA cN k n0 Q (pc + 3) L r n (zcopy M q sp d dp x)) : zGo l b D cA cN k Q p e s m args below meth c H locs cells slots (F0 m pc ls (((0, x) :: (0, dp) :: (2, d) :: (0, sp) :: (2, q) :: r).map (zv b))) := by
  have t0 := zsr_c.mp (zVr_sr V)
  have t1 := zsr_c.mp t0.2
  have t2 := zsr_c.mp t1.2
  have t3 := zsr_c.mp t2.2
  have t4 := zsr_c.mp t3.2
  have hq : 0 < q := zKT_pos (by rw [h1]; decide)
  have hd : 0 < d := zKT_pos (by rw [h2]; decide)
  have hqn : q ≤ n := t4.1.1.2
  have hdn : d ≤ n := t2.1.1.2
  obtain ⟨r1, r2, r3, r4⟩ := zVr_rel V
  have u1 : (Int32.ofInt x).toInt = x := z32_ti t0.1.1
  have u2 : (Int32.ofInt dp).toInt = dp := z32_ti t1.1.1
  have u3 : (Int32.ofInt sp).toInt = sp := z32_ti t3.1.1
  have c1 : (Int32.ofInt x).toNatClampNeg = x.toNat := by show (Int32.ofInt x).toInt.toNat = _; rw [u1]
  have c2 : (Int32.ofInt dp).toNatClampNeg = dp.toNat := by show (Int32.ofInt dp).toInt.toNat = _; rw [u2]
  have c3 : (Int32.ofInt sp).toNatClampNeg = sp.toNat := by show (Int32.ofInt sp).toInt.toNat = _; rw [u3]
  rw [List.map_cons, List.map_cons, List.map_cons, List.map_cons, List.map_cons, zv_ref b hq, zv_ref b hd]
  refine va_copyi (ty := .int) F.2.1 F.2.2.1 (F.2.2.2.1.trans (zVr_lv V).1.symm) F.2.2.2.2.2.1 (F.2.2.2.2.2.2.2.2.1 _ hw) (F.2.2.2.2.2.2.2.2.1 _ zmi_3) (F.2.2.2.2.2.2.2.2.1 _ zmi_2) (F.2.2.2.2.2.2.2.2.1 _ zmi_4) F.2.2.2.2.2.2.2.2.2.1.1 r2 zws_D (zVr_S V) (q.toNat - 1) (d.toNat - 1) 0 0 (zarr (by omega) hqn h1) (zarr (by omega) hdn h2) rfl rfl rfl
    (by rw [Int32.lt_iff_toInt_lt, u3]; simp; omega) (by rw [Int32.lt_iff_toInt_lt, u2]; simp; omega) (by rw [Int32.lt_iff_toInt_lt, u1]; simp; omega) (by rw [c3, c1]; omega) (by rw [c2, c1]; omega) (fun _ _ => rfl) h9 (by rw [zcats_eq]; show zcats r + (7 + 11) ≤ zlo k; omega) hdg (fun H1 locs1 hP1 _ hS1 => ?_)
  have hrow : ∀ c, c ≠ d → zcopy M q sp d dp x c = M c := by
    intro c hc
    funext j
    unfold zcopy
    rw [if_neg (fun z => hc z.1)]
  refine h p e s m args below meth c H1 locs1 cells slots ls F (zVr_mem V ⟨r1, ?_, ?_, ?_⟩ hS1 t4.2)
  · rw [zws_set (M' := zcopy M q sp d dp x) (by omega) hdn ?_ hrow] at hP1
    · exact hP1
    · rcases hk : zKT d with ⟨u, v⟩
      rw [hk] at h2
      dsimp only at h2
      subst h2
      show Sum.inl _ = Sum.inl _
      rw [c1, c2, c3]
      congr 4
      funext j
      unfold va_cpy zcopy
      by_cases z : dp.toNat ≤ j ∧ j < dp.toNat + x.toNat
      · rw [if_pos z, if_pos ⟨rfl, by omega, by omega⟩]
        dsimp only
        rw [show ((sp.toNat + (j - dp.toNat) : Nat) : Int) = sp + ((j : Int) - dp) by omega]
      · rw [if_neg z, if_neg (by omega)]
  · intro c j g1 g2 g3
    unfold zcopy
    by_cases z : c = d ∧ dp ≤ j ∧ j < dp + x
    · rw [if_pos z]
      have y := r3 q (sp + (j - dp)) (by omega) hqn (by omega)
      unfold zmt at y ⊢
      rw [h1] at y
      rw [z.1, h2]
      exact y
    · rw [if_neg z]
      exact r3 c j g1 g2 g3
  · intro c j g
    rw [hrow c (by omega)]
    exact r4 c j g
theorem zo_abs {i : Nat} {x : Int} (F : zFx b D cA cN k n0 Q p s m args meth c) (V : zVr b D cA cN k n0 L ((0, x) :: r) n M s H locs cells slots ls) (hdg : decode (zb k) pc = .ok (.invokestatic i, 3)) (hw : Cond.methodLink (zcnm (zoc k)) i Lib.Math.abs.name ∈ zwl) (h8 : zcats r ≤ 8) (h9 : 1 ≤ zfr k) (h10 : 21 ≤ zlo k) (h : zP l b D cA cN k n0 Q (pc + 3) L ((0, if 0 ≤ x then x else zw (0 - x)) :: r) n M) : zGo l b D cA cN k Q p e s m args below meth c H locs cells slots (F0 m pc ls (((0, x) :: r).map (zv b))) := by
  have hx : -2147483648 ≤ x ∧ x < 2147483648 := (zsr_c.mp (zVr_sr V)).1.1
  have hz : -2147483648 ≤ (if 0 ≤ x then x else zw (0 - x)) ∧ (if 0 ≤ x then x else zw (0 - x)) < 2147483648 := by
    split
    · exact hx
    · exact zw_r _
  refine zstk h F V (zsr_c.mpr ⟨⟨hz, by dsimp only; omega⟩, (zsr_c.mp (zVr_sr V)).2⟩) (fun g => ?_)
  refine va_mabs F.2.1 F.2.2.1 (F.2.2.2.1.trans (zVr_lv V).1.symm) F.2.2.2.2.2.1 (F.2.2.2.2.2.2.2.2.1 _ hw) (F.2.2.2.2.2.2.2.2.1 _ zmi_6) (F.2.2.2.2.2.2.2.2.1 _ zmi_7) (F.2.2.2.2.2.2.2.2.1 _ zmi_8) h9 (by rw [zcats_eq]; show zcats r + 13 ≤ zlo k; omega) V.2.2.1 V.2.2.2.1 hdg ?_
  have e1 : Int32.ofInt (if 0 ≤ x then x else zw (0 - x)) = (if 0 ≤ Int32.ofInt x then Int32.ofInt x else 0 - Int32.ofInt x) := by
    have : (0 : Int32) ≤ Int32.ofInt x ↔ 0 ≤ x := z32_le (x := 0) (y := x) (by decide) hx
    by_cases q : 0 ≤ x
    · rw [if_pos q, if_pos (this.mpr q)]
    · rw [if_neg q, if_neg (fun z => q (this.mp z)), z32_sub]; rfl
  rw [List.map_cons] at g
  show W _ _ _ _ _ _ _ _ _ _ _ _ _ _ _ (F0 m (pc + 3) ls (.int (if 0 ≤ Int32.ofInt x then Int32.ofInt x else 0 - Int32.ofInt x) :: _))
  rw [← e1]
  exact g
theorem zo_objInit {i : Nat} {a : Int} (F : zFx b D cA cN k n0 Q p s m args meth c) (V : zVr b D cA cN k n0 L ((2, a) :: r) n M s H locs cells slots ls) (hdg : decode (zb k) pc = .ok (.invokespecial i, 3)) (hw : Cond.methodLink (zcnm (zoc k)) i objectInit ∈ zwl) (ha : 0 < a) (h8 : zcats r ≤ 8) (h9 : 1 ≤ zfr k) (h10 : 20 ≤ zlo k) (h : zP l b D cA cN k n0 Q (pc + 3) L r n M) : zGo l b D cA cN k Q p e s m args below meth c H locs cells slots (F0 m pc ls (((2, a) :: r).map (zv b))) := by
  rw [List.map_cons, zv_ref b ha]
  refine W.objInit F.2.1 F.2.2.1 F.2.2.2.2.2.1 (F.2.2.2.2.2.2.2.2.1 _ hw) (F.2.2.2.2.2.2.2.2.1 _ zmi_0) (F.2.2.2.2.2.2.2.2.1 _ zmi_1) rfl ((zVr_lv V).1.trans F.2.2.2.1.symm) rfl hdg h9 (by rw [zcats_eq]; show 2 * 0 + zcats r + 12 ≤ zlo k; omega) ?_
  exact h p e s m args below meth c H locs cells slots ls F (zVr_st V (zsr_c.mp (zVr_sr V)).2)
theorem zsw_in {K : Nat → Prop} {x : Int} : ∀ (ts : List Nat) (lo : Int) (d j : Nat) (t : Nat), zsw K x lo ts d → x = lo + j → ts[j]? = some t → K t
  | [], _, _, _, _, _, _, h => by simp at h
  | u :: ts, lo, d, 0, t, h, hx, hj => by
    cases hj
    exact h.1 (by omega)
  | u :: ts, lo, d, j + 1, t, h, hx, hj => zsw_in ts (lo + 1) d j t (h.2 (by omega)) (by omega) (by simpa using hj)
theorem zsw_out {K : Nat → Prop} {x : Int} : ∀ (ts : List Nat) (lo : Int) (d : Nat), zsw K x lo ts d → (x < lo ∨ lo + ts.length ≤ x) → K d
  | [], _, _, h, _ => h
  | u :: ts, lo, d, h, hx => zsw_out ts (lo + 1) d (h.2 (by simp only [List.length_cons] at hx; omega)) (by simp only [List.length_cons] at hx; omega)
theorem zo_table {d lo hi x : Int} {offs : Array Int} {len : Nat} (F : zFx b D cA cN k n0 Q p s m args meth c) (V : zVr b D cA cN k n0 L ((0, x) :: r) n M s H locs cells slots ls) (hdg : decode (zb k) pc = .ok (.tableswitch d lo hi offs, len)) (hd : 0 ≤ (pc : Int) + d) (hlh : lo ≤ hi) (hsz : (offs.size : Int) = hi - lo + 1) (ho : (offs.toList.all (fun o => decide (0 ≤ (pc : Int) + o))) = true) (h : zsw (fun t => zP l b D cA cN k n0 Q t L r n M) x lo (offs.toList.map (fun o => ((pc : Int) + o).toNat)) ((pc : Int) + d).toNat) : zGo l b D cA cN k Q p e s m args below meth c H locs cells slots (F0 m pc ls (((0, x) :: r).map (zv b))) := by
  have hx : -2147483648 ≤ x ∧ x < 2147483648 := (zsr_c.mp (zVr_sr V)).1.1
  have e1 : (Int32.ofInt x).toInt = x := z32_ti hx
  by_cases hin : lo ≤ x ∧ x ≤ hi
  · have hj : (x - lo).toNat < offs.size := by omega
    have e2 : offs[((Int32.ofInt x).toInt - lo).toNat]? = some offs[(x - lo).toNat] := by rw [e1]; exact Array.getElem?_eq_getElem hj
    have e3 : (offs.toList.map (fun o => ((pc : Int) + o).toNat))[(x - lo).toNat]? = some ((pc : Int) + offs[(x - lo).toNat]).toNat := by
      rw [List.getElem?_map, Array.getElem?_toList, Array.getElem?_eq_getElem hj]; rfl
    have e4 : 0 ≤ (pc : Int) + offs[(x - lo).toNat] := by
      have := List.all_eq_true.mp ho offs[(x - lo).toNat] (by simp)
      exact of_decide_eq_true this
    exact lv_tableIn F.2.1 F.2.2.1 hdg (by rw [e1]; omega) (by rw [e1]; omega) e2 (by omega) (zsw_in _ lo _ (x - lo).toNat _ h (by omega) e3 p e s m args below meth c H locs cells slots ls F (zVr_st V (zsr_c.mp (zVr_sr V)).2))
  · refine lv_tableOut F.2.1 F.2.2.1 hdg (by rw [e1]; omega) (tgt := ((pc : Int) + d).toNat) (by omega) ?_
    exact zsw_out _ lo _ h (by rw [List.length_map, Array.length_toList]; omega) p e s m args below meth c H locs cells slots ls F (zVr_st V (zsr_c.mp (zVr_sr V)).2)
end ZR3
