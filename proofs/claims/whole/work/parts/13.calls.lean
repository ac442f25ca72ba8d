/-! calls -/
theorem zML_in : ∀ e ∈ zML, e.2.2.2.2 < 3 → zMw e ∈ zwl := by
  intro e he h3
  have h0 : e ∈ zML0 := List.mem_filter.mpr ⟨he, by simpa using h3⟩
  have hl : zML0.length ≤ 150 := by decide +kernel
  obtain ⟨i, hi⟩ := List.getElem?_of_mem h0
  have hlt : i < zML0.length := (List.getElem?_eq_some_iff.mp hi).1
  have key : ∀ q, q ≤ i → i < q + 50 → e ∈ (zML0.drop q).take 50 := by
    intro q h1 h2
    refine List.mem_of_getElem? (i := i - q) ?_
    rw [List.getElem?_take_of_lt (by omega), List.getElem?_drop, show q + (i - q) = i by omega]
    exact hi
  rcases Nat.lt_or_ge i 50 with a | a
  · exact zat_ok zML_a0 _ (List.mem_map_of_mem (key 0 (by omega) (by omega)))
  · rcases Nat.lt_or_ge i 100 with c | c
    · exact zat_ok zML_a1 _ (List.mem_map_of_mem (key 50 (by omega) (by omega)))
    · exact zat_ok zML_a2 _ (List.mem_map_of_mem (key 100 (by omega) (by omega)))
theorem zML_n : ∀ e ∈ zML, ¬ e.2.2.2.2 < 3 → zMw e ∈ zNW := fun e he h => List.mem_map_of_mem (List.mem_filter.mpr ⟨he, by simpa using h⟩)
/-- of a link: the method is there; how many parameters it has -/
def zpar (k : Nat) : Nat := ((parseMethodDescriptor (zy k).desc).map (fun d => d.parameters.length)).getD 99
theorem zML_ok : ∀ e ∈ zML, e.2.2.1 < 166 ∧ (parseMethodDescriptor (zy e.2.2.1).desc).map (fun d => d.parameters.length) = some (if zsta e.2.2.1 then e.2.2.2.1 else e.2.2.2.1 - 1) ∧ (e.2.2.2.2 = 0 → zsta e.2.2.1 = false ∧ (e.2.2.1 ∈ zst ∨ e.2.2.1 ∈ zsp)) ∧ (e.2.2.2.2 = 1 → zsta e.2.2.1 = true) ∧ (e.2.2.2.2 = 2 → zsta e.2.2.1 = false ∧ (zy e.2.2.1).name = "<init>" ∧ zrt0 e.2.2.1 = none) ∧ (e.2.2.2.2 = 3 → zsta e.2.2.1 = false ∧ (zy e.2.2.1).name = "<init>" ∧ zrt0 e.2.2.1 = none) ∧ (e.2.2.2.2 = 4 → zsta e.2.2.1 = true) ∧ (e.2.2.2.2 = 0 ∨ e.2.2.2.2 = 2 ∨ e.2.2.2.2 = 3 → zoc e.2.2.1 < 10) := by decide +kernel
theorem zsel_in {k : Nat} (h : k ∈ zst ∨ k ∈ zsp) : Cond.selects (zy k).cls (zy k) (zy k) ∈ zwl := by
  rcases h with h | h
  · exact zat_ok zst_a (zsw_ k) (List.mem_map_of_mem h)
  · exact zpv_ok zsp_a k h
theorem zrecv_0 {k' : Nat} {As : List zV} (h : zrecv 0 k' As) : ∃ a As', As = (2, a) :: As' ∧ zKT a = (2, zoc k') := by
  unfold zrecv at h
  split at h <;> first | exact ⟨_, _, rfl, h⟩ | contradiction | (rename_i q; cases q) | exact h.elim
theorem zrecv_i {kd k' : Nat} {As : List zV} (hk : kd = 2 ∨ kd = 3) (h : zrecv kd k' As) : ∃ a As', As = (2, a) :: As' ∧ 0 < a := by
  rcases hk with rfl | rfl <;> unfold zrecv at h <;> split at h <;> first | exact ⟨_, _, rfl, h⟩ | contradiction | (rename_i q; cases q) | exact h.elim
section ZR5
variable {l : Launch} {b : Nat} {D : va_G} {cA cN : ClassId} {k k' : Nat} {n0 : Int} {Q : zQ} {pc nx : Nat} {L L' st st' r As : List zV} {n : Int} {M M' : zM} {p : Program} {e : Env} {s : State} {m : MethodId} {args : Array Value} {below : List Frame} {meth : Method} {c : Code} {H H1 : Heap} {locs locs1 : List Loc} {cells slots : Nat} {ls : Array Slot}
abbrev zQn (l : Launch) (b : Nat) (D : va_G) (cA cN : ClassId) (k : Nat) (n0 : Int) (Q : zQ) (nx : Nat) (L : List zV) (k' : Nat) (n : Int) (r : List zV) : zQ := fun x n' M' => zal k' n n' ∧ zP l b D cA cN k n0 Q nx L (zpush (zrt k') x r) n' M'
/-- behind a call -/
theorem zVr_call {x : Int} {n' : Int} (V : zVr b D cA cN k n0 L st n M s H locs cells slots ls) (ha : zal k' n n') (hk' : k' < 166) (hf : zfitc k n0 k' n) (hR : zRel b D cA cN n' M' H1) (hS : va_S (fun q => b + 1 ≤ q) s.heap H1 locs1) (hr : zsr n r) (hp : zsr n' (zpush (zrt k') x [])) : zVr b D cA cN k n0 L (zpush (zrt k') x r) n' M' s H1 locs1 (cells + zmc k') (slots + zms k') ls := by
  obtain ⟨a1, a2, a3, a4, a5, a6, a7, a8, a9, a10⟩ := V
  have hz := zms_ok k' hk'
  have q1 : n ≤ n' ∧ n' = n + zmc k' ∧ zsl n' = zsl n + zms k' ∧ cells + zmc k' ≤ zmc k ∧ slots + zms k' ≤ zms k := by
    unfold zal at ha
    unfold zfitc at hf
    split at ha
    · rename_i e1
      have e2 := hz e1
      subst ha
      refine ⟨by omega, by omega, by omega, by omega, by omega⟩
    · rename_i c1 e1
      rw [e1] at hf
      dsimp only at hf
      refine ⟨by omega, by omega, by omega, by omega, by omega⟩
  obtain ⟨q1, q2, q3, q4, q5⟩ := q1
  refine ⟨by omega, by omega, q4, q5, hR, hS, a7, a8, fun v hv => zr_up q1 (a9 v hv), ?_⟩
  have hr' : zsr n' r := fun v hv => ⟨zr_up q1 (hr v hv).1, (hr v hv).2⟩
  unfold zpush at hp ⊢
  split at hp
  · exact zsr_c.mpr ⟨(zsr_c.mp hp).1, hr'⟩
  · exact zsr_c.mpr ⟨(zsr_c.mp hp).1, hr'⟩
  · exact hr'
  · exact zsr_c.mpr ⟨(zsr_c.mp hp).1, hr'⟩
/-- the run of a call gives the frame behind it -/
theorem zcont (F : zFx b D cA cN k n0 Q p s m args meth c) (V : zVr b D cA cN k n0 L st n M s H locs cells slots ls) (hk' : k' < 166) (hf : zfitc k n0 k' n) (hr : zsr n r) {a : Array Value} {st0 : List Value} (hrun : va_Run p l e (zrm k) s m args below meth c H locs cells slots (zmc k') (zms k') (F0 m pc ls st0) (r.map (zv b)) (zQc b D cA cN k' (zQn l b D cA cN k n0 Q (pc + 3) L k' n r) a) (fun q => b + 1 ≤ q)) : zGo l b D cA cN k Q p e s m args below meth c H locs cells slots (F0 m pc ls st0) := by
  rcases zrt_ok k' hk' with ⟨h0, -⟩ | ⟨h0, -⟩ | ⟨h0, -⟩ | ⟨h0, -⟩
  · unfold zQc at hrun
    rw [h0] at hrun
    refine va_calli hrun (zVr_S V) (fun q _ h => h) (fun q h => h) (fun x u t H1 locs1 ht _ hp hB _ _ hS1 => ?_)
    try dsimp only at hp hB
    rw [ht] at hB
    have := hp.2 p e s m args below meth c H1 locs1 _ _ ls F (zVr_call V hp.1 hk' hf hB hS1 hr (by rw [h0]; exact zsr_c.mpr ⟨⟨z32_r x, by dsimp only; omega⟩, fun v hv => by cases hv⟩))
    rw [h0] at this
    have e1 : zv b (0, x.toInt) = .int x := by show Value.int (Int32.ofInt x.toInt) = _; rw [Int32.ofInt_toInt]
    rw [← e1]
    exact this
  · unfold zQc at hrun
    rw [h0] at hrun
    refine va_calll hrun (zVr_S V) (fun q _ h => h) (fun q h => h) (fun x u t H1 locs1 ht _ hp hB _ _ hS1 => ?_)
    try dsimp only at hp hB
    rw [ht] at hB
    have := hp.2 p e s m args below meth c H1 locs1 _ _ ls F (zVr_call V hp.1 hk' hf hB hS1 hr (by rw [h0]; exact zsr_c.mpr ⟨⟨z64_r x, by dsimp only; omega⟩, fun v hv => by cases hv⟩))
    rw [h0] at this
    have e1 : zv b (1, x.toInt) = .long x := by show Value.long (Int64.ofInt x.toInt) = _; rw [Int64.ofInt_toInt]
    rw [← e1]
    exact this
  · unfold zQc at hrun
    rw [h0] at hrun
    refine va_callv hrun (zVr_S V) (fun q _ h => h) (fun q h => h) (fun u t H1 locs1 ht _ hp hB _ _ hS1 => ?_)
    try dsimp only at hp hB
    rw [ht] at hB
    have := hp.2 p e s m args below meth c H1 locs1 _ _ ls F (zVr_call V hp.1 hk' hf hB hS1 hr (by rw [h0]; exact fun v hv => by cases hv))
    rw [h0] at this
    exact this
  · unfold zQc at hrun
    rw [h0] at hrun
    refine va_calli hrun (zVr_S V) (fun q _ h => h) (fun q h => h) (fun x u t H1 locs1 ht _ hp hB _ _ hS1 => ?_)
    try dsimp only at hp hB
    rw [ht] at hB
    have := hp.2 p e s m args below meth c H1 locs1 _ _ ls F (zVr_call V hp.1 hk' hf hB hS1 hr (by rw [h0]; exact zsr_c.mpr ⟨⟨z32_r x, by dsimp only; omega⟩, fun v hv => by cases hv⟩))
    rw [h0] at this
    have e1 : zv b (0, x.toInt) = .int x := by show Value.int (Int32.ofInt x.toInt) = _; rw [Int32.ofInt_toInt]
    rw [← e1]
    exact this
theorem zPre (F : zFx b D cA cN k n0 Q p s m args meth c) (V : zVr b D cA cN k n0 L st n M s H locs cells slots ls) {U : State} (hU : U.heap = H) (hW : s.WarmedH U.vm) (hz : H.size ≤ s.heap.size + cells) : zPc b D cA cN As n M (As.map (zv b)).toArray U := by
  refine ⟨rfl, ?_, by rw [hU]; exact zVr_rel V, zKs_warm hW F.2.2.2.2.2.2.2.2.2.1⟩
  obtain ⟨a1, a2, a3, a4, ⟨r1, r2, r3, r4⟩, a6, -⟩ := V
  have hs := F.2.2.2.2.2.2.2.2.2.2.1
  have hn0 := F.2.2.2.2.2.2.2.2.2.2.2.1
  rw [hU]
  have g1 : b + n.toNat + 1 ≤ H.size := by
    by_cases q : n = 0
    · have := a6.1; omega
    · have := (r2 _ _ (zws_at (a := n) (by omega) (by omega))).lt
      dsimp only at this
      omega
  omega
theorem zfit (V : zVr b D cA cN k n0 L st n M s H locs cells slots ls) (hk' : k' < 166) (hf : zfitc k n0 k' n) : cells + zmc k' ≤ (zrm k).cells ∧ slots + zms k' ≤ (zrm k).slots := by
  obtain ⟨a1, a2, a3, a4, -⟩ := V
  have hz := zms_ok k' hk'
  show cells + zmc k' ≤ zmc k ∧ slots + zms k' ≤ zms k
  unfold zfitc at hf
  split at hf
  · rename_i e1
    have := hz e1
    constructor <;> omega
  · rename_i c1 e1
    constructor <;> omega
theorem zo_call {i na kd : Nat} (F : zFx b D cA cN k n0 Q p s m args meth c) (V : zVr b D cA cN k n0 L (As.reverse ++ r) n M s H locs cells slots ls) (hna : As.length = na) (hm : (zoc k, i, k', na, kd) ∈ zML)
    (hdg : (kd = 0 ∧ decode (zb k) pc = .ok (.invokevirtual i, 3)) ∨ ((kd = 1 ∨ kd = 4) ∧ decode (zb k) pc = .ok (.invokestatic i, 3)) ∨ ((kd = 2 ∨ kd = 3) ∧ decode (zb k) pc = .ok (.invokespecial i, 3)))
    (hrc : zrecv kd k' As) (h8 : zcats r ≤ 8) (hlen : (zspr As).length ≤ zml k') (hfr : zfr k' + 1 ≤ zfr k) (hlo : 8 + (zml k' + 11) + zlo k' ≤ zlo k) (hf : zfitc k n0 k' n)
    (h : zP l b D cA cN k' n (zQn l b D cA cN k n0 Q (pc + 3) L k' n r) 0 (zpad (zml k') (zspr As)) [] n M) : zGo l b D cA cN k Q p e s m args below meth c H locs cells slots (F0 m pc ls ((As.reverse ++ r).map (zv b))) := by
  obtain ⟨g1, g2, g3, g4, g5, g6, g7, g8⟩ := zML_ok _ hm
  dsimp only at g1 g2 g3 g4 g5 g6 g7 g8
  have hsr : zsr n (As.reverse ++ r) := zVr_sr V
  have hA : zsr n As := fun v hv => hsr v (List.mem_append_left _ (List.mem_reverse.mpr hv))
  have hr : zsr n r := fun v hv => hsr v (List.mem_append_right _ hv)
  have hMet := zMet g1 h hlen hA (fun _ _ _ q => q.1) (zVr_rel V).1
  have hts := F.2.2.2.2.2.2.2.2.1
  have hin : (Cond.initialized (zy k').cls).before args s = true := by
    have := hts _ (zinw_in (zoc k') (znm_in k' g1).2.1)
    unfold zinw at this
    rwa [(znm_in k' g1).1] at this
  have hst : ((As.reverse ++ r).map (zv b)) = (As.map (zv b)).reverse ++ r.map (zv b) := by rw [List.map_append, List.map_reverse]
  have hW8 : 2 * (F0 m pc ls ((As.map (zv b)).reverse ++ r.map (zv b))).monitorRoom + ((r.map (zv b)).map fun v => v.category).sum ≤ 8 := by rw [zcats_eq]; show 2 * 0 + zcats r ≤ 8; omega
  have hroom : (zrm k').frames + 1 ≤ (zrm k).frames ∧ 8 + (zml k' + 11) + (zrm k').locals ≤ (zrm k).locals := ⟨hfr, hlo⟩
  have S : CallFix p m c (zb k) (zml k) s args zwl (zcnm (zoc k)) := ⟨F.2.1, F.2.2.1, F.2.2.2.1, F.2.2.2.2.2.1, hts⟩
  rw [hst]
  refine zsize (fun hz => ?_)
  refine zcont F V g1 hf hr (a := (As.map (zv b)).toArray) ?_
  rcases hdg with ⟨rfl, hdg⟩ | ⟨hkd, hdg⟩ | ⟨hkd, hdg⟩
  · -- virtual
    obtain ⟨a, As', rfl, hka⟩ := zrecv_0 hrc
    · have ha : 0 < a := zKT_pos (by rw [hka]; exact (show (2 : Nat) ≠ 9 by decide))
      have han : a ≤ n := (hA (2, a) List.mem_cons_self).1.2
      have hw : (Cond.methodLink (zcnm (zoc k)) i (zy k')).before args s = true := hts _ (zML_in _ hm (by dsimp only; omega))
      have hoc := g8 (Or.inl rfl)
      have hi2 : (Cond.instanceMethod (zy k')).before args s = true := by
        have := hts _ (znw_in k' g1)
        unfold znw at this
        rwa [(g3 rfl).1] at this
      have cw : CallW (zrm k) s args (zcnm (zoc k)) (zy k').cls i (zy k') (zb k') (zml k') (zrt0 k') (zwd k') (zrm k') (zmc k') (zms k') As'.length :=
        ⟨callB_of As'.length hts (zwd_good g1) rfl rfl rfl hin hw ⟨(zcls_ne k' g1).1, (zcls_ne k' g1).2, by rw [g2, (g3 rfl).1, ← hna]; rfl⟩ hroom, hi2, hts _ (zsel_in (g3 rfl).2)⟩
      have hrv := va_recv F.2.2.2.2.2.2.2.2.2.1.1 (zVr_rel V).2.1 (zcls_at _ hoc) (zobj (by omega) han hka)
      have run := va_runV (e := e) (below := below) (meth := meth) (locs := locs) (As := As'.map (zv b)) (rest := r.map (zv b)) (b := b + a.toNat) S hMet cw ⟨zPc_blind, by rw [← (znm_in k' g1).1]; exact hrv, fun U hU hW => by
          have := zPre (As := (2, a) :: As') F V hU hW hz
          rw [List.map_cons, zv_ref b ha] at this
          exact this⟩ (g := F0 m pc ls ((((2, a) :: As').map (zv b)).reverse ++ r.map (zv b))) rfl (by rw [List.length_map]) (zVr_lv V).1 (by rw [List.map_cons, zv_ref b ha]; simp) hW8 hdg (zfit V g1 hf)
      rw [List.map_cons, zv_ref b ha] at run ⊢
      exact run
  · -- static
    have hst2 : zsta k' = true := hkd.elim g4 g7
    have hs2 : (Cond.static (zy k')).before args s = true := by
      have := hts _ (znw_in k' g1)
      unfold znw at this
      rwa [hst2] at this
    have hn2 : (parseMethodDescriptor (zy k').desc).map (fun d => d.parameters.length) = some As.length := by rw [g2, hst2, hna]; rfl
    have hp2 : PreS s H (zPc b D cA cN As n M) (As.map (zv b)) := ⟨zPc_blind, fun U hU hW => zPre F V hU hW hz⟩
    rcases hkd with rfl | rfl
    · have hw : (Cond.methodLink (zcnm (zoc k)) i (zy k')).before args s = true := hts _ (zML_in _ hm (by dsimp only; omega))
      exact va_runS (As := As.map (zv b)) (rest := r.map (zv b)) (n := As.length) S hMet ⟨callB_of As.length hts (zwd_good g1) rfl rfl rfl hin hw ⟨(zcls_ne k' g1).1, (zcls_ne k' g1).2, hn2⟩ hroom, hs2⟩ hp2 rfl (by rw [List.length_map]) (zVr_lv V).1 rfl hW8 hdg (zfit V g1 hf)
    · have hw : va_Nw (.methodLinkNest (zcnm (zoc k)) i (zy k') "TieOffice") s := F.2.2.2.2.2.2.2.2.2.1.2.2 _ (zML_n _ hm (by dsimp only; omega))
      exact va_runSN (As := As.map (zv b)) (rest := r.map (zv b)) (n := As.length) S hMet ⟨va_cnB As.length hts (zwd_good g1) rfl rfl rfl hw hin ⟨(zcls_ne k' g1).1, (zcls_ne k' g1).2, hn2⟩ hroom, hs2, trivial⟩ hp2 rfl (by rw [List.length_map]) (zVr_lv V).1 rfl hW8 hdg (zfit V g1 hf)
  · -- constructors
    have hst2 : zsta k' = false ∧ (zy k').name = "<init>" ∧ zrt0 k' = none := hkd.elim g5 g6
    have hi2 : (Cond.instanceMethod (zy k')).before args s = true := by
      have := hts _ (znw_in k' g1)
      unfold znw at this
      rwa [hst2.1] at this
    obtain ⟨a, As', rfl, ha⟩ := zrecv_i hkd hrc
    · have hn2 : (parseMethodDescriptor (zy k').desc).map (fun d => d.parameters.length) = some As'.length := by rw [g2, hst2.1, ← hna]; rfl
      have hp2 : PreS s H (zPc b D cA cN ((2, a) :: As') n M) (.ref (b + a.toNat) :: As'.map (zv b)) := ⟨zPc_blind, fun U hU hW => by
          have := zPre (As := (2, a) :: As') F V hU hW hz
          rw [List.map_cons, zv_ref b ha] at this
          exact this⟩
      have hwd : zwd k' = Cond.code (zy k') (zb k') (zml k') none :: zwl := by unfold zwd; rw [hst2.2.2]
      rcases hkd with rfl | rfl
      · have hw : (Cond.methodLink (zcnm (zoc k)) i (zy k')).before args s = true := hts _ (zML_in _ hm (by dsimp only; omega))
        have run := va_runI (e := e) (below := below) (meth := meth) (locs := locs) (As := As'.map (zv b)) (rest := r.map (zv b)) (b := b + a.toNat) (n := As'.length) S hMet ⟨callB_of As'.length hts (zwd_good g1) hwd rfl rfl hin hw ⟨(zcls_ne k' g1).1, (zcls_ne k' g1).2, hn2⟩ hroom, hst2.2.1, hi2⟩ hp2 (g := F0 m pc ls ((((2, a) :: As').map (zv b)).reverse ++ r.map (zv b))) rfl (by rw [List.length_map]) (zVr_lv V).1 (by rw [List.map_cons, zv_ref b ha]; simp) hW8 hdg (zfit V g1 hf)
        rw [List.map_cons, zv_ref b ha] at run ⊢
        exact run
      · have hw : va_Nw (.methodLinkNest (zcnm (zoc k)) i (zy k') "TieOffice") s := F.2.2.2.2.2.2.2.2.2.1.2.2 _ (zML_n _ hm (by dsimp only; omega))
        have run := va_runIN (e := e) (below := below) (meth := meth) (locs := locs) (As := As'.map (zv b)) (rest := r.map (zv b)) (b := b + a.toNat) (n := As'.length) S hMet ⟨va_cnB As'.length hts (zwd_good g1) hwd rfl rfl hw hin ⟨(zcls_ne k' g1).1, (zcls_ne k' g1).2, hn2⟩ hroom, hst2.2.1, hi2⟩ hp2 (g := F0 m pc ls ((((2, a) :: As').map (zv b)).reverse ++ r.map (zv b))) rfl (by rw [List.length_map]) (zVr_lv V).1 (by rw [List.map_cons, zv_ref b ha]; simp) hW8 hdg (zfit V g1 hf)
        rw [List.map_cons, zv_ref b ha] at run ⊢
        exact run
end ZR5
