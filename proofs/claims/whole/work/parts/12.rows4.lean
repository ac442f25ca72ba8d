/-! returns and calls -/
theorem zrt_ok : ∀ k, k < 166 → (zrt k = 0 ∧ zrt0 k = some .int) ∨ (zrt k = 1 ∧ zrt0 k = some .long) ∨ (zrt k = 2 ∧ zrt0 k = none) ∨ (zrt k = 3 ∧ zrt0 k = some .boolean) := by decide +kernel
theorem zms_ok : ∀ k, k < 166 → zmc k = 0 → zms k = 0 := by decide +kernel
theorem znm_i1 : ∀ k, k < 166 → zcnm (zoc k) = (zy k).cls := by decide +kernel
theorem znm_i2 : ∀ k, k < 166 → zoc k < 12 := by decide +kernel
theorem znm_i3 : ∀ k, k < 166 → zini k = true → (zy k).name = "<init>" := by decide +kernel
theorem znm_i4 : ∀ k, k < 166 → plainName (zy k).cls = true := by decide +kernel
theorem znm_in : ∀ k, k < 166 → zcnm (zoc k) = (zy k).cls ∧ zoc k < 12 ∧ (zini k = true → (zy k).name = "<init>") ∧ plainName (zy k).cls = true := fun k h => ⟨znm_i1 k h, znm_i2 k h, znm_i3 k h, znm_i4 k h⟩
theorem zcls_ne : ∀ k, k < 166 → (zy k).cls ≠ "java/lang/invoke/MethodHandle" ∧ (zy k).cls ≠ "java/lang/invoke/VarHandle" := by decide +kernel
section ZR4
variable {l : Launch} {b : Nat} {D : va_G} {cA cN : ClassId} {k : Nat} {n0 : Int} {Q : zQ} {pc nx : Nat} {L L' st st' r : List zV} {n : Int} {M M' : zM} {p : Program} {e : Env} {s : State} {m : MethodId} {args : Array Value} {below : List Frame} {meth : Method} {c : Code} {H H1 : Heap} {locs locs1 : List Loc} {cells slots : Nat} {ls : Array Slot}
theorem zend (F : zFx b D cA cN k n0 Q p s m args meth c) (V : zVr b D cA cN k n0 L st n M s H locs cells slots ls) {x : Int} (hq : Q x n M) : cells = zmc k ∧ slots = zms k := by
  obtain ⟨a1, a2, a3, a4, -⟩ := V
  have h := F.2.2.2.2.2.2.2.2.2.2.2.2 x n M hq
  unfold zal at h
  split at h
  · rename_i e1
    have := zms_ok k F.1 e1
    constructor <;> omega
  · rename_i c1 e1
    obtain ⟨h1, h2⟩ := h
    constructor <;> omega
theorem zo_ireturn {x : Int} (F : zFx b D cA cN k n0 Q p s m args meth c) (V : zVr b D cA cN k n0 L [(0, x)] n M s H locs cells slots ls) (hdg : decode (zb k) pc = .ok (.ireturn, 1)) (hrt : zrt k = 0) (hq : Q x n M) : zGo l b D cA cN k Q p e s m args below meth c H locs cells slots (F0 m pc ls (([(0, x)] : List zV).map (zv b))) := by
  obtain ⟨e1, e2⟩ := zend F V hq
  subst e1; subst e2
  have hr : meth.sig.returnType = some .int := by
    rw [F.2.2.2.2.1]
    rcases zrt_ok k F.1 with h | h | h | h <;> first | exact h.2 | (exfalso; omega)
  have hx : -2147483648 ≤ x ∧ x < 2147483648 := (zsr_c.mp (zVr_sr V)).1.1
  have hlocks := F.2.2.2.2.2.2.2.1
  refine W.iret (v := Int32.ofInt x) F.2.1 F.2.2.1 hr (fun t ht hW => ?_) (zVr_S V).2.2 hdg
  unfold zQc
  rw [hrt]
  exact ⟨⟨Int32.ofInt x, (n, M), rfl, by dsimp only; rw [z32_ti hx]; exact hq, by dsimp only; rw [ht]; exact zVr_rel V⟩, (zVr_S V).F ht⟩
theorem zo_zreturn {x : Int} (F : zFx b D cA cN k n0 Q p s m args meth c) (V : zVr b D cA cN k n0 L [(0, x)] n M s H locs cells slots ls) (hdg : decode (zb k) pc = .ok (.ireturn, 1)) (hrt : zrt k = 3) (h01 : x = 0 ∨ x = 1) (hq : Q x n M) : zGo l b D cA cN k Q p e s m args below meth c H locs cells slots (F0 m pc ls (([(0, x)] : List zV).map (zv b))) := by
  obtain ⟨e1, e2⟩ := zend F V hq
  subst e1; subst e2
  have hr : meth.sig.returnType = some .boolean := by
    rw [F.2.2.2.2.1]
    rcases zrt_ok k F.1 with h | h | h | h <;> first | exact h.2 | (exfalso; omega)
  have hx : -2147483648 ≤ x ∧ x < 2147483648 := (zsr_c.mp (zVr_sr V)).1.1
  have hlocks := F.2.2.2.2.2.2.2.1
  refine W.zret (v := Int32.ofInt x) F.2.1 F.2.2.1 hr (by rcases h01 with rfl | rfl <;> rfl) (fun t ht hW => ?_) (zVr_S V).2.2 hdg
  unfold zQc
  rw [hrt]
  exact ⟨⟨Int32.ofInt x, (n, M), rfl, by dsimp only; rw [z32_ti hx]; exact hq, by dsimp only; rw [ht]; exact zVr_rel V⟩, (zVr_S V).F ht⟩
theorem zo_lreturn {x : Int} (F : zFx b D cA cN k n0 Q p s m args meth c) (V : zVr b D cA cN k n0 L [(1, x)] n M s H locs cells slots ls) (hdg : decode (zb k) pc = .ok (.lreturn, 1)) (hrt : zrt k = 1) (hq : Q x n M) : zGo l b D cA cN k Q p e s m args below meth c H locs cells slots (F0 m pc ls (([(1, x)] : List zV).map (zv b))) := by
  obtain ⟨e1, e2⟩ := zend F V hq
  subst e1; subst e2
  have hr : meth.sig.returnType = some .long := by
    rw [F.2.2.2.2.1]
    rcases zrt_ok k F.1 with h | h | h | h <;> first | exact h.2 | (exfalso; omega)
  have hx : -9223372036854775808 ≤ x ∧ x < 9223372036854775808 := (zsr_c.mp (zVr_sr V)).1.1
  have hlocks := F.2.2.2.2.2.2.2.1
  refine W.lret (v := Int64.ofInt x) F.2.1 F.2.2.1 hr (fun t ht hW => ?_) (zVr_S V).2.2 hdg
  unfold zQc
  rw [hrt]
  exact ⟨⟨Int64.ofInt x, (n, M), rfl, by dsimp only; rw [z64_ti hx]; exact hq, by dsimp only; rw [ht]; exact zVr_rel V⟩, (zVr_S V).F ht⟩
theorem zo_return (F : zFx b D cA cN k n0 Q p s m args meth c) (V : zVr b D cA cN k n0 L [] n M s H locs cells slots ls) (hdg : decode (zb k) pc = .ok (.return_, 1)) (hrt : zrt k = 2) (hq : Q 0 n M) : zGo l b D cA cN k Q p e s m args below meth c H locs cells slots (F0 m pc ls (([] : List zV).map (zv b))) := by
  obtain ⟨e1, e2⟩ := zend F V hq
  subst e1; subst e2
  have hr : meth.sig.returnType = none := by
    rw [F.2.2.2.2.1]
    rcases zrt_ok k F.1 with h | h | h | h <;> first | exact h.2 | (exfalso; omega)
  have hlocks := F.2.2.2.2.2.2.2.1
  refine W.vret F.2.1 F.2.2.1 hr (fun t ht hW => ?_) (zVr_S V).2.2 hdg
  unfold zQc
  rw [hrt]
  exact ⟨⟨(n, M), rfl, hq, by dsimp only; rw [ht]; exact zVr_rel V⟩, (zVr_S V).F ht⟩
end ZR4
/-- the values of a call in the callee's locals -/
theorem zlv_pad (b : Nat) : ∀ (m i : Nat), zlv b i (zpad m []) = []
  | 0, i => rfl
  | m + 1, i => by simp only [zpad, zlv]; exact zlv_pad b m (i + 1)
theorem zlv_ent (b : Nat) : ∀ (As : List zV) (m i : Nat), (∀ v ∈ As, v.1 < 3) → (zspr As).length ≤ m → zlv b i (zpad m (zspr As)) = lv_args i (As.map (zv b))
  | [], m, i, _, _ => by simp only [zspr, List.map_nil, lv_args]; exact zlv_pad b m i
  | v :: As, m, i, h, hm => by
    have hv := h v List.mem_cons_self
    have hr := fun w hw => h w (List.mem_cons_of_mem _ hw)
    unfold zspr at hm ⊢
    by_cases q : v.1 = 1
    · rw [if_pos q] at hm ⊢
      simp only [List.length_cons] at hm
      obtain ⟨m', rfl⟩ : ∃ m', m = m' + 2 := ⟨m - 2, by omega⟩
      simp only [zpad, zlv, List.map_cons, lv_args]
      rw [if_neg (by omega), if_pos trivial, if_pos ((zv_cat b v).mpr q), zlv_ent b As m' (i + 1 + 1) hr (by omega)]
    · rw [if_neg q] at hm ⊢
      simp only [List.length_cons] at hm
      obtain ⟨m', rfl⟩ : ∃ m', m = m' + 1 := ⟨m - 1, by omega⟩
      simp only [zpad, zlv, List.map_cons, lv_args]
      rw [if_neg (by omega), if_neg (fun z => q ((zv_cat b v).mp z)), zlv_ent b As m' (i + 1) hr (by omega)]
theorem zspr_len (b : Nat) : ∀ (As : List zV), (lg_sl (As.map (zv b))).length = (zspr As).length
  | [] => rfl
  | v :: As => by
    have ih := zspr_len b As
    unfold lg_sl at ih ⊢
    unfold zspr
    rw [List.map_cons, List.flatMap_cons, List.length_append, ih]
    by_cases q : v.1 = 1
    · rw [if_pos q, if_pos ((zv_cat b v).mpr q)]; simp; omega
    · rw [if_neg q, if_neg (fun z => q ((zv_cat b v).mp z))]; simp; omega
theorem zpad_len : ∀ (m : Nat) (l : List zV), l.length ≤ m → (zpad m l).length = m
  | 0, l, h => by simpa [zpad] using h
  | m + 1, [], _ => by simp [zpad, zpad_len m [] (by simp)]
  | m + 1, v :: l, h => by simp [zpad, zpad_len m l (by simpa using h)]
theorem zpad_r {n : Int} : ∀ (m : Nat) (l : List zV), (∀ v ∈ l, zr n v) → ∀ v ∈ zpad m l, zr n v
  | 0, l, h => h
  | m + 1, [], h => fun v hv => (List.mem_cons.mp hv).elim (fun q => by rw [q]; trivial) (zpad_r m [] h v)
  | m + 1, w :: l, h => fun v hv => (List.mem_cons.mp hv).elim (fun q => by rw [q]; exact h w List.mem_cons_self) (zpad_r m l (fun x hx => h x (List.mem_cons_of_mem _ hx)) v)
theorem zspr_r {n : Int} : ∀ (As : List zV), (∀ v ∈ As, zr n v) → ∀ v ∈ zspr As, zr n v
  | [], h => h
  | w :: As, h => fun v hv => by
    have ih := zspr_r As (fun x hx => h x (List.mem_cons_of_mem _ hx)) v
    unfold zspr at hv
    split at hv
    · rcases List.mem_cons.mp hv with q | hv
      · rw [q]; exact h w List.mem_cons_self
      · rcases List.mem_cons.mp hv with q | hv
        · rw [q]; trivial
        · exact ih hv
    · rcases List.mem_cons.mp hv with q | hv
      · rw [q]; exact h w List.mem_cons_self
      · exact ih hv
def zPc (b : Nat) (D : va_G) (cA cN : ClassId) (As : List zV) (n : Int) (M : zM) : Array Value → State → Prop := va_Pc (As.map (zv b)) (fun U => (U.heap.size : Int) = b + 1 + n ∧ zRel b D cA cN n M U.heap ∧ zKs D cA cN U)
theorem zMet {l : Launch} {b : Nat} {D : va_G} {cA cN : ClassId} {k : Nat} {Q : zQ} {As : List zV} {n : Int} {M : zM} (hk : k < 166) (h : zP l b D cA cN k n Q 0 (zpad (zml k) (zspr As)) [] n M) (hlen : (zspr As).length ≤ zml k) (hr : zsr n As) (hQ : ∀ r n' M', Q r n' M' → zal k n n') (hn : 0 ≤ n) :
    Met l (zy k) (zwd k) (zrm k) (zPc b D cA cN As n M) (zQc b D cA cN k Q) (zmc k) (zms k) (fun q => b + 1 ≤ q) := by
  refine Met.ofW (cc := zb k) (maxL := zml k) (ret := zrt0 k) (znm_in k hk).2.2.2 rfl ?_
  intro p e s m args below meth c s₁ B hml hv
  obtain ⟨rfl, hsz, hR, hK⟩ := hv
  have hl := lv_entry (As.map (zv b)) (n := zml k) (by rw [zspr_len]; exact hlen)
  rw [lg_entry_eq]
  generalize (lg_sl (As.map (zv b)) ++ List.replicate (zml k - (lg_sl (As.map (zv b))).length) Slot.unset).toArray = ls at hl ⊢
  have hts := atoms_spec (ws := zwd k) B.pre
  refine h p e s m _ below meth c s.heap [] 0 0 ls ⟨hk, B.exec, B.bytes, hml, B.returns, ?_, ?_, B.notSynchronized, fun w hw => hts w (List.mem_cons_of_mem _ hw), hK, hsz, hn, hQ⟩ ⟨by omega, by omega, Nat.zero_le _, Nat.zero_le _, hR, va_S.rf, ?_, zpad_len _ _ hlen, zpad_r _ _ (zspr_r As (fun v hv => (hr v hv).1)), fun v hv => by cases hv⟩
  · rw [(znm_in k hk).1]; exact findClass_of_methodNamed B.named
  · intro q
    rw [(name_of_methodNamed B.named B.method).1]
    exact (znm_in k hk).2.2.1 q
  · rw [zlv_ent b As (zml k) 0 (fun v hv => (hr v hv).2) hlen]
    exact hl
theorem zNW_nest : ∀ w ∈ zNW, ∃ a i x h, w = Cond.methodLinkNest a i x h := by
  intro w hw
  obtain ⟨e, he, rfl⟩ := List.mem_map.mp hw
  have := (List.mem_filter.mp he).2
  unfold zMw
  rw [if_neg (by simpa using this)]
  exact ⟨_, _, _, _, rfl⟩
theorem zKs_warm {D : va_G} {cA cN : ClassId} {s U : State} (hW : s.WarmedH U.vm) (h : zKs D cA cN s) : zKs D cA cN U :=
  ⟨va_K.moved hW.alike h.1, va_AO.moved hW.alike h.2.1, fun w hw => by
    obtain ⟨a, i, x, y, rfl⟩ := zNW_nest w hw
    exact va_Nw.warmM hW (h.2.2 _ hw)⟩
theorem zPc_blind {b : Nat} {D : va_G} {cA cN : ClassId} {As : List zV} {n : Int} {M : zM} : FrameBlind (zPc b D cA cN As n M) := by
  intro a U g mk q
  obtain ⟨q0, q1, q2, q3, q4, q5⟩ := q
  exact ⟨q0, q1, q2, va_K.moved (u := U) (U := U.calling g mk a) (Vm.Alike.refl U.vm) q3, va_AO.moved (u := U) (U := U.calling g mk a) (Vm.Alike.refl U.vm) q4, fun w hw => by
    obtain ⟨_, _, _, _, rfl⟩ := zNW_nest w hw
    exact va_Nw.same (u := U) (U := U.calling g mk a) rfl rfl (q5 _ hw)⟩
theorem zwd_good {k : Nat} (hk : k < 166) : GoodIn zwl (zwd k) := by
  have g : ∀ w ∈ zwl, w ∈ zwl ∧ ((w.onTables && w.keeps) = true ∨ ∃ ty, w = .arrayClass ty) := fun w hw => ⟨hw, good_of_word (List.mem_filter.mp hw).2⟩
  intro w hw
  rcases List.mem_cons.mp hw with rfl | hw
  · exact g _ (zcw_in k hk)
  · exact g w hw
theorem zpp_ok : ∀ (m : Nat) (acc st As r : List zV), zpp m acc st = some (As, r) → ∃ pre, As = pre ++ acc ∧ st = pre.reverse ++ r ∧ pre.length = m
  | 0, acc, st, As, r, h => by
    simp only [zpp, Option.some.injEq, Prod.mk.injEq] at h
    exact ⟨[], h.1.symm, h.2, rfl⟩
  | m + 1, acc, [], As, r, h => by simp [zpp] at h
  | m + 1, acc, v :: st, As, r, h => by
    simp only [zpp] at h
    obtain ⟨pre, h1, h2, h3⟩ := zpp_ok m (v :: acc) st As r h
    exact ⟨pre ++ [v], by rw [h1]; simp, by rw [h2]; simp, by simp [h3]⟩
