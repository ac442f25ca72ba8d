/-! the real machine keeps the clean rules -/
theorem zW_mono {p : Program} {l : Launch} {e : Env} {R : Room} {s : State} {m : MethodId} {args : Array Value} {below : List Frame} {meth : Method} {c : Code} {H : Heap} {locs : List Loc} {cells slots : Nat} {Q1 Q2 : State → Prop} {g : JFrame} (hq : ∀ t, Q1 t → Q2 t) (h : W p l e R s m args below meth c H locs cells slots Q1 g) : W p l e R s m args below meth c H locs cells slots Q2 g := by
  intro T hT X
  obtain ⟨t, a1, b1⟩ := h T hT X
  exact ⟨t, a1, hq t b1⟩
theorem zQc_mono {b : Nat} {D : va_G} {cA cN : ClassId} {k : Nat} {Q Q' : zQ} (hq : ∀ r n' M', Q r n' M' → Q' r n' M') {a : Array Value} {st : State} {o : Outcome} {t : State} (h : zQc b D cA cN k Q a st o t) : zQc b D cA cN k Q' a st o t := by
  unfold zQc at *
  generalize zrt k = q at *
  match q with
  | 0 =>
    obtain ⟨⟨r, u, h1, h2, h3⟩, h4⟩ := h
    exact ⟨⟨r, u, h1, hq _ _ _ h2, h3⟩, h4⟩
  | 1 =>
    obtain ⟨⟨r, u, h1, h2, h3⟩, h4⟩ := h
    exact ⟨⟨r, u, h1, hq _ _ _ h2, h3⟩, h4⟩
  | 2 =>
    obtain ⟨⟨u, h1, h2, h3⟩, h4⟩ := h
    exact ⟨⟨u, h1, hq _ _ _ h2, h3⟩, h4⟩
  | q + 3 =>
    obtain ⟨⟨r, u, h1, h2, h3⟩, h4⟩ := h
    exact ⟨⟨r, u, h1, hq _ _ _ h2, h3⟩, h4⟩
theorem zP_mo (l : Launch) (b : Nat) (D : va_G) (cA cN : ClassId) : zmo (zP l b D cA cN) := by
  intro k n0 Q Q' pc L st n M hq h p e s m args below meth c H locs cells slots ls F V
  obtain ⟨f1, f2, f3, f4, f5, f6, f7, f8, f9, f10, f11, f12, f13⟩ := F
  refine zW_mono (fun t ht => ?_) (h p e s m args below meth c H locs cells slots ls ⟨f1, f2, f3, f4, f5, f6, f7, f8, f9, f10, f11, f12, fun r n' M' q => f13 r n' M' (hq r n' M' q)⟩ V)
  obtain ⟨o, h1, h2, h3, h4⟩ := ht
  exact ⟨o, h1, h2, zQc_mono hq h3, h4⟩
theorem zfl_in {c i ci fk : Nat} (h : zfl c i = some (ci, fk)) : (c, i, ci, fk) ∈ zFL := by
  unfold zfl at h
  obtain ⟨e, h1, h2⟩ := Option.map_eq_some_iff.mp h
  have h3 := List.find?_some h1
  have h4 := List.mem_of_find?_eq_some h1
  simp only [Bool.and_eq_true, beq_iff_eq] at h3
  obtain ⟨a1, a2, a3⟩ := e
  dsimp only at h2 h3
  rw [← h3.1, ← h3.2, ← h2]
  exact h4
theorem zmlk_in {c i k' na kd : Nat} (h : zmlk c i = some (k', na, kd)) : (c, i, k', na, kd) ∈ zML := by
  unfold zmlk at h
  obtain ⟨e, h1, h2⟩ := Option.map_eq_some_iff.mp h
  have h3 := List.find?_some h1
  have h4 := List.mem_of_find?_eq_some h1
  simp only [Bool.and_eq_true, beq_iff_eq] at h3
  obtain ⟨a1, a2, a3⟩ := e
  dsimp only at h2 h3
  rw [← h3.1, ← h3.2, ← h2]
  exact h4
theorem zckl_in {c i ci : Nat} (h : zckl c i = some ci) : (c, i, ci) ∈ zCK := by
  unfold zckl at h
  obtain ⟨e, h1, h2⟩ := Option.map_eq_some_iff.mp h
  have h3 := List.find?_some h1
  have h4 := List.mem_of_find?_eq_some h1
  simp only [Bool.and_eq_true, beq_iff_eq] at h3
  obtain ⟨a1, a2, a3⟩ := e
  dsimp only at h2 h3
  rw [← h3.1, ← h3.2, ← h2]
  exact h4
theorem zcil_in {c i : Nat} {v : Int} (h : zcil c i = some v) : (c, i, v) ∈ zCI := by
  unfold zcil at h
  obtain ⟨e, h1, h2⟩ := Option.map_eq_some_iff.mp h
  have h3 := List.find?_some h1
  have h4 := List.mem_of_find?_eq_some h1
  simp only [Bool.and_eq_true, beq_iff_eq] at h3
  obtain ⟨a1, a2, a3⟩ := e
  dsimp only at h2 h3
  rw [← h3.1, ← h3.2, ← h2]
  exact h4
theorem zcjl_in {c i : Nat} {v : Int} (h : zcjl c i = some v) : (c, i, v) ∈ zCJ := by
  unfold zcjl at h
  obtain ⟨e, h1, h2⟩ := Option.map_eq_some_iff.mp h
  have h3 := List.find?_some h1
  have h4 := List.mem_of_find?_eq_some h1
  simp only [Bool.and_eq_true, beq_iff_eq] at h3
  obtain ⟨a1, a2, a3⟩ := e
  dsimp only at h2 h3
  rw [← h3.1, ← h3.2, ← h2]
  exact h4
theorem zFL_r : ∀ e ∈ zFL, e.2.2.1 < 10 ∧ e.2.2.2 < znf e.2.2.1 := by decide +kernel
theorem zCK_r : ∀ e ∈ zCK, e.2.2 < 10 := by decide +kernel
theorem zCI_r : ∀ e ∈ zCI, -2147483648 ≤ e.2.2 ∧ e.2.2 < 2147483648 := by decide +kernel
theorem zCJ_r : ∀ e ∈ zCJ, -9223372036854775808 ≤ e.2.2 ∧ e.2.2 < 9223372036854775808 := by decide +kernel
theorem zKl_r : ∀ q ∈ zKl, q.2 ≤ 1000 := by decide +kernel
theorem zKT_r (a : Int) : (zKT a).2 ≤ 1000 := by
  unfold zKT
  split
  · rename_i j
    rw [List.getD_eq_getElem?_getD]
    cases h : zKl[j]? with
    | none => simp
    | some q => exact zKl_r q (List.mem_of_getElem? h)
  · simp
/-- a jump -/
theorem zjmp_ok {op pc len : Nat} {off : Int} : (zjmp op pc len off = zno) ∨ (0 ≤ (pc : Int) + off ∧ zjmp op pc len off = (op, pc + len, [((pc : Int) + off).toNat], 0)) := by
  unfold zjmp
  split
  · exact Or.inr ⟨‹_›, rfl⟩
  · exact Or.inl rfl
theorem zno_F {k : Nat} {n0 : Int} {K : zJ} {C : zCt} {Q : zQ} {L st : List zV} {n : Int} {M : zM} (h : zwI k n0 K C Q zno L st n M) : False := by
  unfold zwI zstep at h
  exact h
section ZA
variable {l : Launch} {b : Nat} {D : va_G} {cA cN : ClassId} {k : Nat} {n0 : Int} {Q : zQ} {pc nx : Nat} {L st : List zV} {n : Int} {M : zM} {p : Program} {e : Env} {s : State} {m : MethodId} {args : Array Value} {below : List Frame} {meth : Method} {c : Code} {H : Heap} {locs : List Loc} {cells slots : Nat} {ls : Array Slot} {i : Nat} {fi : Fin 4} {v off : Int}
theorem za_iconst (F : zFx b D cA cN k n0 Q p s m args meth c) (V : zVr b D cA cN k n0 L st n M s H locs cells slots ls) (hdg : decode (zb k) pc = .ok (.iconst v, 1)) (hv : -1 ≤ v ∧ v ≤ 5) (h : zwI k n0 (zP l b D cA cN k n0 Q) (zent (zP l b D cA cN)) Q (0, pc + 1, [], v) L st n M) : zGo l b D cA cN k Q p e s m args below meth c H locs cells slots (F0 m pc ls (st.map (zv b))) := by
  unfold zwI zstep at h
  exact zo_iconst F V hdg hv h.2
theorem za_bipush (F : zFx b D cA cN k n0 Q p s m args meth c) (V : zVr b D cA cN k n0 L st n M s H locs cells slots ls) (hdg : decode (zb k) pc = .ok (.bipush v, 2)) (hv : -128 ≤ v ∧ v ≤ 127) (h : zwI k n0 (zP l b D cA cN k n0 Q) (zent (zP l b D cA cN)) Q (0, pc + 2, [], v) L st n M) : zGo l b D cA cN k Q p e s m args below meth c H locs cells slots (F0 m pc ls (st.map (zv b))) := by
  unfold zwI zstep at h
  exact zo_bipush F V hdg hv h.2
theorem za_sipush (F : zFx b D cA cN k n0 Q p s m args meth c) (V : zVr b D cA cN k n0 L st n M s H locs cells slots ls) (hdg : decode (zb k) pc = .ok (.sipush v, 3)) (hv : -32768 ≤ v ∧ v ≤ 32767) (h : zwI k n0 (zP l b D cA cN k n0 Q) (zent (zP l b D cA cN)) Q (0, pc + 3, [], v) L st n M) : zGo l b D cA cN k Q p e s m args below meth c H locs cells slots (F0 m pc ls (st.map (zv b))) := by
  unfold zwI zstep at h
  exact zo_sipush F V hdg hv h.2
theorem za_ldc (F : zFx b D cA cN k n0 Q p s m args meth c) (V : zVr b D cA cN k n0 L st n M s H locs cells slots ls) (hdg : decode (zb k) pc = .ok (.ldc i, 2)) (hv : zcil (zoc k) i = some v) (h : zwI k n0 (zP l b D cA cN k n0 Q) (zent (zP l b D cA cN)) Q (0, pc + 2, [], v) L st n M) : zGo l b D cA cN k Q p e s m args below meth c H locs cells slots (F0 m pc ls (st.map (zv b))) := by
  unfold zwI zstep at h
  exact zo_ldc F V hdg (zat_ok zCI_a _ (List.mem_map_of_mem (f := fun e : Nat × Nat × Int => Cond.constant (zcnm e.1) e.2.1 (Int32.ofInt e.2.2)) (zcil_in hv))) (zCI_r _ (zcil_in hv)) h.2
theorem za_ldcw (F : zFx b D cA cN k n0 Q p s m args meth c) (V : zVr b D cA cN k n0 L st n M s H locs cells slots ls) (hdg : decode (zb k) pc = .ok (.ldc_w i, 3)) (hv : zcil (zoc k) i = some v) (h : zwI k n0 (zP l b D cA cN k n0 Q) (zent (zP l b D cA cN)) Q (0, pc + 3, [], v) L st n M) : zGo l b D cA cN k Q p e s m args below meth c H locs cells slots (F0 m pc ls (st.map (zv b))) := by
  unfold zwI zstep at h
  exact zo_ldcw F V hdg (zat_ok zCI_a _ (List.mem_map_of_mem (f := fun e : Nat × Nat × Int => Cond.constant (zcnm e.1) e.2.1 (Int32.ofInt e.2.2)) (zcil_in hv))) (zCI_r _ (zcil_in hv)) h.2
theorem za_ldc2 (F : zFx b D cA cN k n0 Q p s m args meth c) (V : zVr b D cA cN k n0 L st n M s H locs cells slots ls) (hdg : decode (zb k) pc = .ok (.ldc2_w i, 3)) (hv : zcjl (zoc k) i = some v) (h : zwI k n0 (zP l b D cA cN k n0 Q) (zent (zP l b D cA cN)) Q (1, pc + 3, [], v) L st n M) : zGo l b D cA cN k Q p e s m args below meth c H locs cells slots (F0 m pc ls (st.map (zv b))) := by
  unfold zwI zstep at h
  exact zo_ldc2 F V hdg (zat_ok zCJ_a _ (List.mem_map_of_mem (f := fun e : Nat × Nat × Int => Cond.constantLong (zcnm e.1) e.2.1 (Int64.ofInt e.2.2)) (zcjl_in hv))) (zCJ_r _ (zcjl_in hv)) h.2
theorem za_lconst {f2 : Fin 2} (F : zFx b D cA cN k n0 Q p s m args meth c) (V : zVr b D cA cN k n0 L st n M s H locs cells slots ls) (hdg : decode (zb k) pc = .ok (.lconst f2, 1)) (h : zwI k n0 (zP l b D cA cN k n0 Q) (zent (zP l b D cA cN)) Q (1, pc + 1, [], ((f2 : Nat) : Int)) L st n M) : zGo l b D cA cN k Q p e s m args below meth c H locs cells slots (F0 m pc ls (st.map (zv b))) := by
  unfold zwI zstep at h
  exact zo_lconst F V hdg h.2
theorem za_iload (F : zFx b D cA cN k n0 Q p s m args meth c) (V : zVr b D cA cN k n0 L st n M s H locs cells slots ls) (hdg : decode (zb k) pc = .ok (.iload i, 2)) (h : zwI k n0 (zP l b D cA cN k n0 Q) (zent (zP l b D cA cN)) Q (2, pc + 2, [i], 0) L st n M) : zGo l b D cA cN k Q p e s m args below meth c H locs cells slots (F0 m pc ls (st.map (zv b))) := by
  replace h : (match (generalizing := false) (match (generalizing := false) znth L ((i)) with | some (0, x) => some (True, L, (0, x) :: st, n, M) | _ => none : Option (Prop × List zV × List zV × Int × zM)) with | some (g, L2, st2, n2, M2) => g ∧ zP l b D cA cN k n0 Q (pc + 2) L2 st2 n2 M2 | none => False) := h
  split at h
  · rename_i heq
    split at heq <;> first | (cases heq; exact zo_iload F V hdg (by assumption) h.2) | (cases heq; done)
  · exact h.elim
theorem za_iloadn (F : zFx b D cA cN k n0 Q p s m args meth c) (V : zVr b D cA cN k n0 L st n M s H locs cells slots ls) (hdg : decode (zb k) pc = .ok (.iload_n fi, 1)) (h : zwI k n0 (zP l b D cA cN k n0 Q) (zent (zP l b D cA cN)) Q (2, pc + 1, [(fi : Nat)], 0) L st n M) : zGo l b D cA cN k Q p e s m args below meth c H locs cells slots (F0 m pc ls (st.map (zv b))) := by
  replace h : (match (generalizing := false) (match (generalizing := false) znth L (((fi : Nat))) with | some (0, x) => some (True, L, (0, x) :: st, n, M) | _ => none : Option (Prop × List zV × List zV × Int × zM)) with | some (g, L2, st2, n2, M2) => g ∧ zP l b D cA cN k n0 Q (pc + 1) L2 st2 n2 M2 | none => False) := h
  split at h
  · rename_i heq
    split at heq <;> first | (cases heq; exact zo_iloadn F V hdg (by assumption) h.2) | (cases heq; done)
  · exact h.elim
theorem za_lload (F : zFx b D cA cN k n0 Q p s m args meth c) (V : zVr b D cA cN k n0 L st n M s H locs cells slots ls) (hdg : decode (zb k) pc = .ok (.lload i, 2)) (h : zwI k n0 (zP l b D cA cN k n0 Q) (zent (zP l b D cA cN)) Q (3, pc + 2, [i], 0) L st n M) : zGo l b D cA cN k Q p e s m args below meth c H locs cells slots (F0 m pc ls (st.map (zv b))) := by
  replace h : (match (generalizing := false) (match (generalizing := false) znth L ((i)) with | some (1, x) => some (True, L, (1, x) :: st, n, M) | _ => none : Option (Prop × List zV × List zV × Int × zM)) with | some (g, L2, st2, n2, M2) => g ∧ zP l b D cA cN k n0 Q (pc + 2) L2 st2 n2 M2 | none => False) := h
  split at h
  · rename_i heq
    split at heq <;> first | (cases heq; exact zo_lload F V hdg (by assumption) h.2) | (cases heq; done)
  · exact h.elim
theorem za_lloadn (F : zFx b D cA cN k n0 Q p s m args meth c) (V : zVr b D cA cN k n0 L st n M s H locs cells slots ls) (hdg : decode (zb k) pc = .ok (.lload_n fi, 1)) (h : zwI k n0 (zP l b D cA cN k n0 Q) (zent (zP l b D cA cN)) Q (3, pc + 1, [(fi : Nat)], 0) L st n M) : zGo l b D cA cN k Q p e s m args below meth c H locs cells slots (F0 m pc ls (st.map (zv b))) := by
  replace h : (match (generalizing := false) (match (generalizing := false) znth L (((fi : Nat))) with | some (1, x) => some (True, L, (1, x) :: st, n, M) | _ => none : Option (Prop × List zV × List zV × Int × zM)) with | some (g, L2, st2, n2, M2) => g ∧ zP l b D cA cN k n0 Q (pc + 1) L2 st2 n2 M2 | none => False) := h
  split at h
  · rename_i heq
    split at heq <;> first | (cases heq; exact zo_lloadn F V hdg (by assumption) h.2) | (cases heq; done)
  · exact h.elim
theorem za_aload (F : zFx b D cA cN k n0 Q p s m args meth c) (V : zVr b D cA cN k n0 L st n M s H locs cells slots ls) (hdg : decode (zb k) pc = .ok (.aload i, 2)) (h : zwI k n0 (zP l b D cA cN k n0 Q) (zent (zP l b D cA cN)) Q (4, pc + 2, [i], 0) L st n M) : zGo l b D cA cN k Q p e s m args below meth c H locs cells slots (F0 m pc ls (st.map (zv b))) := by
  replace h : (match (generalizing := false) (match (generalizing := false) znth L ((i)) with | some (2, x) => some (0 < x, L, (2, x) :: st, n, M) | _ => none : Option (Prop × List zV × List zV × Int × zM)) with | some (g, L2, st2, n2, M2) => g ∧ zP l b D cA cN k n0 Q (pc + 2) L2 st2 n2 M2 | none => False) := h
  split at h
  · rename_i heq
    split at heq <;> first | (cases heq; exact zo_aload F V hdg (by assumption) h.1 h.2) | (cases heq; done)
  · exact h.elim
theorem za_aloadn (F : zFx b D cA cN k n0 Q p s m args meth c) (V : zVr b D cA cN k n0 L st n M s H locs cells slots ls) (hdg : decode (zb k) pc = .ok (.aload_n fi, 1)) (h : zwI k n0 (zP l b D cA cN k n0 Q) (zent (zP l b D cA cN)) Q (4, pc + 1, [(fi : Nat)], 0) L st n M) : zGo l b D cA cN k Q p e s m args below meth c H locs cells slots (F0 m pc ls (st.map (zv b))) := by
  replace h : (match (generalizing := false) (match (generalizing := false) znth L (((fi : Nat))) with | some (2, x) => some (0 < x, L, (2, x) :: st, n, M) | _ => none : Option (Prop × List zV × List zV × Int × zM)) with | some (g, L2, st2, n2, M2) => g ∧ zP l b D cA cN k n0 Q (pc + 1) L2 st2 n2 M2 | none => False) := h
  split at h
  · rename_i heq
    split at heq <;> first | (cases heq; exact zo_aloadn F V hdg (by assumption) h.1 h.2) | (cases heq; done)
  · exact h.elim
theorem za_istore (F : zFx b D cA cN k n0 Q p s m args meth c) (V : zVr b D cA cN k n0 L st n M s H locs cells slots ls) (hdg : decode (zb k) pc = .ok (.istore i, 2)) (h : zwI k n0 (zP l b D cA cN k n0 Q) (zent (zP l b D cA cN)) Q (5, pc + 2, [i], 0) L st n M) : zGo l b D cA cN k Q p e s m args below meth c H locs cells slots (F0 m pc ls (st.map (zv b))) := by
  replace h : (match (generalizing := false) (match (generalizing := false) znth L ((i)), st with | some _, (0, x) :: r => some (True, zst1 L ((i)) (0, x), r, n, M) | _, _ => none : Option (Prop × List zV × List zV × Int × zM)) with | some (g, L2, st2, n2, M2) => g ∧ zP l b D cA cN k n0 Q (pc + 2) L2 st2 n2 M2 | none => False) := h
  split at h
  · rename_i heq
    split at heq <;> first | (cases heq; exact zo_istore F V hdg (by assumption) h.2) | (cases heq; done)
  · exact h.elim
theorem za_istoren (F : zFx b D cA cN k n0 Q p s m args meth c) (V : zVr b D cA cN k n0 L st n M s H locs cells slots ls) (hdg : decode (zb k) pc = .ok (.istore_n fi, 1)) (h : zwI k n0 (zP l b D cA cN k n0 Q) (zent (zP l b D cA cN)) Q (5, pc + 1, [(fi : Nat)], 0) L st n M) : zGo l b D cA cN k Q p e s m args below meth c H locs cells slots (F0 m pc ls (st.map (zv b))) := by
  replace h : (match (generalizing := false) (match (generalizing := false) znth L (((fi : Nat))), st with | some _, (0, x) :: r => some (True, zst1 L (((fi : Nat))) (0, x), r, n, M) | _, _ => none : Option (Prop × List zV × List zV × Int × zM)) with | some (g, L2, st2, n2, M2) => g ∧ zP l b D cA cN k n0 Q (pc + 1) L2 st2 n2 M2 | none => False) := h
  split at h
  · rename_i heq
    split at heq <;> first | (cases heq; exact zo_istoren F V hdg (by assumption) h.2) | (cases heq; done)
  · exact h.elim
theorem za_lstore (F : zFx b D cA cN k n0 Q p s m args meth c) (V : zVr b D cA cN k n0 L st n M s H locs cells slots ls) (hdg : decode (zb k) pc = .ok (.lstore i, 2)) (h : zwI k n0 (zP l b D cA cN k n0 Q) (zent (zP l b D cA cN)) Q (6, pc + 2, [i], 0) L st n M) : zGo l b D cA cN k Q p e s m args below meth c H locs cells slots (F0 m pc ls (st.map (zv b))) := by
  replace h : (match (generalizing := false) (match (generalizing := false) znth L ((i) + 1), st with | some _, (1, x) :: r => some (True, zst2 L ((i)) (1, x), r, n, M) | _, _ => none : Option (Prop × List zV × List zV × Int × zM)) with | some (g, L2, st2, n2, M2) => g ∧ zP l b D cA cN k n0 Q (pc + 2) L2 st2 n2 M2 | none => False) := h
  split at h
  · rename_i heq
    split at heq <;> first | (cases heq; exact zo_lstore F V hdg (by assumption) h.2) | (cases heq; done)
  · exact h.elim
theorem za_lstoren (F : zFx b D cA cN k n0 Q p s m args meth c) (V : zVr b D cA cN k n0 L st n M s H locs cells slots ls) (hdg : decode (zb k) pc = .ok (.lstore_n fi, 1)) (h : zwI k n0 (zP l b D cA cN k n0 Q) (zent (zP l b D cA cN)) Q (6, pc + 1, [(fi : Nat)], 0) L st n M) : zGo l b D cA cN k Q p e s m args below meth c H locs cells slots (F0 m pc ls (st.map (zv b))) := by
  replace h : (match (generalizing := false) (match (generalizing := false) znth L (((fi : Nat)) + 1), st with | some _, (1, x) :: r => some (True, zst2 L (((fi : Nat))) (1, x), r, n, M) | _, _ => none : Option (Prop × List zV × List zV × Int × zM)) with | some (g, L2, st2, n2, M2) => g ∧ zP l b D cA cN k n0 Q (pc + 1) L2 st2 n2 M2 | none => False) := h
  split at h
  · rename_i heq
    split at heq <;> first | (cases heq; exact zo_lstoren F V hdg (by assumption) h.2) | (cases heq; done)
  · exact h.elim
theorem za_astore (F : zFx b D cA cN k n0 Q p s m args meth c) (V : zVr b D cA cN k n0 L st n M s H locs cells slots ls) (hdg : decode (zb k) pc = .ok (.astore i, 2)) (h : zwI k n0 (zP l b D cA cN k n0 Q) (zent (zP l b D cA cN)) Q (7, pc + 2, [i], 0) L st n M) : zGo l b D cA cN k Q p e s m args below meth c H locs cells slots (F0 m pc ls (st.map (zv b))) := by
  replace h : (match (generalizing := false) (match (generalizing := false) znth L ((i)), st with | some _, (2, x) :: r => some (0 < x, zst1 L ((i)) (2, x), r, n, M) | _, _ => none : Option (Prop × List zV × List zV × Int × zM)) with | some (g, L2, st2, n2, M2) => g ∧ zP l b D cA cN k n0 Q (pc + 2) L2 st2 n2 M2 | none => False) := h
  split at h
  · rename_i heq
    split at heq <;> first | (cases heq; exact zo_astore F V hdg (by assumption) h.1 h.2) | (cases heq; done)
  · exact h.elim
theorem za_astoren (F : zFx b D cA cN k n0 Q p s m args meth c) (V : zVr b D cA cN k n0 L st n M s H locs cells slots ls) (hdg : decode (zb k) pc = .ok (.astore_n fi, 1)) (h : zwI k n0 (zP l b D cA cN k n0 Q) (zent (zP l b D cA cN)) Q (7, pc + 1, [(fi : Nat)], 0) L st n M) : zGo l b D cA cN k Q p e s m args below meth c H locs cells slots (F0 m pc ls (st.map (zv b))) := by
  replace h : (match (generalizing := false) (match (generalizing := false) znth L (((fi : Nat))), st with | some _, (2, x) :: r => some (0 < x, zst1 L (((fi : Nat))) (2, x), r, n, M) | _, _ => none : Option (Prop × List zV × List zV × Int × zM)) with | some (g, L2, st2, n2, M2) => g ∧ zP l b D cA cN k n0 Q (pc + 1) L2 st2 n2 M2 | none => False) := h
  split at h
  · rename_i heq
    split at heq <;> first | (cases heq; exact zo_astoren F V hdg (by assumption) h.1 h.2) | (cases heq; done)
  · exact h.elim
theorem za_iinc (F : zFx b D cA cN k n0 Q p s m args meth c) (V : zVr b D cA cN k n0 L st n M s H locs cells slots ls) (hdg : decode (zb k) pc = .ok (.iinc i v, 3)) (h : zwI k n0 (zP l b D cA cN k n0 Q) (zent (zP l b D cA cN)) Q (8, pc + 3, [i], v) L st n M) : zGo l b D cA cN k Q p e s m args below meth c H locs cells slots (F0 m pc ls (st.map (zv b))) := by
  replace h : (match (generalizing := false) (match (generalizing := false) znth L ((i)) with | some (0, x) => some (True, zst1 L ((i)) (0, zw (x + (v))), st, n, M) | _ => none : Option (Prop × List zV × List zV × Int × zM)) with | some (g, L2, st2, n2, M2) => g ∧ zP l b D cA cN k n0 Q (pc + 3) L2 st2 n2 M2 | none => False) := h
  split at h
  · rename_i heq
    split at heq <;> first | (cases heq; exact zo_iinc F V hdg (by assumption) h.2) | (cases heq; done)
  · exact h.elim
theorem za_iadd (F : zFx b D cA cN k n0 Q p s m args meth c) (V : zVr b D cA cN k n0 L st n M s H locs cells slots ls) (hdg : decode (zb k) pc = .ok (.iadd, 1)) (h : zwI k n0 (zP l b D cA cN k n0 Q) (zent (zP l b D cA cN)) Q (50, pc + 1, [], 0) L st n M) : zGo l b D cA cN k Q p e s m args below meth c H locs cells slots (F0 m pc ls (st.map (zv b))) := by
  replace h : (match (generalizing := false) (match (generalizing := false) st with | (0, y) :: (0, x) :: r => some (True, L, (0, zw (x + y)) :: r, n, M) | _ => none : Option (Prop × List zV × List zV × Int × zM)) with | some (g, L2, st2, n2, M2) => g ∧ zP l b D cA cN k n0 Q (pc + 1) L2 st2 n2 M2 | none => False) := h
  split at h
  · rename_i heq
    split at heq <;> first | (cases heq; exact zo_iadd F V hdg h.2) | (cases heq; done)
  · exact h.elim
theorem za_isub (F : zFx b D cA cN k n0 Q p s m args meth c) (V : zVr b D cA cN k n0 L st n M s H locs cells slots ls) (hdg : decode (zb k) pc = .ok (.isub, 1)) (h : zwI k n0 (zP l b D cA cN k n0 Q) (zent (zP l b D cA cN)) Q (51, pc + 1, [], 0) L st n M) : zGo l b D cA cN k Q p e s m args below meth c H locs cells slots (F0 m pc ls (st.map (zv b))) := by
  replace h : (match (generalizing := false) (match (generalizing := false) st with | (0, y) :: (0, x) :: r => some (True, L, (0, zw (x - y)) :: r, n, M) | _ => none : Option (Prop × List zV × List zV × Int × zM)) with | some (g, L2, st2, n2, M2) => g ∧ zP l b D cA cN k n0 Q (pc + 1) L2 st2 n2 M2 | none => False) := h
  split at h
  · rename_i heq
    split at heq <;> first | (cases heq; exact zo_isub F V hdg h.2) | (cases heq; done)
  · exact h.elim
theorem za_imul (F : zFx b D cA cN k n0 Q p s m args meth c) (V : zVr b D cA cN k n0 L st n M s H locs cells slots ls) (hdg : decode (zb k) pc = .ok (.imul, 1)) (h : zwI k n0 (zP l b D cA cN k n0 Q) (zent (zP l b D cA cN)) Q (52, pc + 1, [], 0) L st n M) : zGo l b D cA cN k Q p e s m args below meth c H locs cells slots (F0 m pc ls (st.map (zv b))) := by
  replace h : (match (generalizing := false) (match (generalizing := false) st with | (0, y) :: (0, x) :: r => some (True, L, (0, zw (x * y)) :: r, n, M) | _ => none : Option (Prop × List zV × List zV × Int × zM)) with | some (g, L2, st2, n2, M2) => g ∧ zP l b D cA cN k n0 Q (pc + 1) L2 st2 n2 M2 | none => False) := h
  split at h
  · rename_i heq
    split at heq <;> first | (cases heq; exact zo_imul F V hdg h.2) | (cases heq; done)
  · exact h.elim
theorem za_iand (F : zFx b D cA cN k n0 Q p s m args meth c) (V : zVr b D cA cN k n0 L st n M s H locs cells slots ls) (hdg : decode (zb k) pc = .ok (.iand, 1)) (h : zwI k n0 (zP l b D cA cN k n0 Q) (zent (zP l b D cA cN)) Q (53, pc + 1, [], 0) L st n M) : zGo l b D cA cN k Q p e s m args below meth c H locs cells slots (F0 m pc ls (st.map (zv b))) := by
  replace h : (match (generalizing := false) (match (generalizing := false) st with | (0, y) :: (0, x) :: r => some (True, L, (0, zand x y) :: r, n, M) | _ => none : Option (Prop × List zV × List zV × Int × zM)) with | some (g, L2, st2, n2, M2) => g ∧ zP l b D cA cN k n0 Q (pc + 1) L2 st2 n2 M2 | none => False) := h
  split at h
  · rename_i heq
    split at heq <;> first | (cases heq; exact zo_iand F V hdg h.2) | (cases heq; done)
  · exact h.elim
theorem za_ior (F : zFx b D cA cN k n0 Q p s m args meth c) (V : zVr b D cA cN k n0 L st n M s H locs cells slots ls) (hdg : decode (zb k) pc = .ok (.ior, 1)) (h : zwI k n0 (zP l b D cA cN k n0 Q) (zent (zP l b D cA cN)) Q (54, pc + 1, [], 0) L st n M) : zGo l b D cA cN k Q p e s m args below meth c H locs cells slots (F0 m pc ls (st.map (zv b))) := by
  replace h : (match (generalizing := false) (match (generalizing := false) st with | (0, y) :: (0, x) :: r => some (True, L, (0, zor x y) :: r, n, M) | _ => none : Option (Prop × List zV × List zV × Int × zM)) with | some (g, L2, st2, n2, M2) => g ∧ zP l b D cA cN k n0 Q (pc + 1) L2 st2 n2 M2 | none => False) := h
  split at h
  · rename_i heq
    split at heq <;> first | (cases heq; exact zo_ior F V hdg h.2) | (cases heq; done)
  · exact h.elim
theorem za_ixor (F : zFx b D cA cN k n0 Q p s m args meth c) (V : zVr b D cA cN k n0 L st n M s H locs cells slots ls) (hdg : decode (zb k) pc = .ok (.ixor, 1)) (h : zwI k n0 (zP l b D cA cN k n0 Q) (zent (zP l b D cA cN)) Q (55, pc + 1, [], 0) L st n M) : zGo l b D cA cN k Q p e s m args below meth c H locs cells slots (F0 m pc ls (st.map (zv b))) := by
  replace h : (match (generalizing := false) (match (generalizing := false) st with | (0, y) :: (0, x) :: r => some (True, L, (0, zxor x y) :: r, n, M) | _ => none : Option (Prop × List zV × List zV × Int × zM)) with | some (g, L2, st2, n2, M2) => g ∧ zP l b D cA cN k n0 Q (pc + 1) L2 st2 n2 M2 | none => False) := h
  split at h
  · rename_i heq
    split at heq <;> first | (cases heq; exact zo_ixor F V hdg h.2) | (cases heq; done)
  · exact h.elim
theorem za_ishl (F : zFx b D cA cN k n0 Q p s m args meth c) (V : zVr b D cA cN k n0 L st n M s H locs cells slots ls) (hdg : decode (zb k) pc = .ok (.ishl, 1)) (h : zwI k n0 (zP l b D cA cN k n0 Q) (zent (zP l b D cA cN)) Q (56, pc + 1, [], 0) L st n M) : zGo l b D cA cN k Q p e s m args below meth c H locs cells slots (F0 m pc ls (st.map (zv b))) := by
  replace h : (match (generalizing := false) (match (generalizing := false) st with | (0, y) :: (0, x) :: r => some (True, L, (0, zshl x y) :: r, n, M) | _ => none : Option (Prop × List zV × List zV × Int × zM)) with | some (g, L2, st2, n2, M2) => g ∧ zP l b D cA cN k n0 Q (pc + 1) L2 st2 n2 M2 | none => False) := h
  split at h
  · rename_i heq
    split at heq <;> first | (cases heq; exact zo_ishl F V hdg h.2) | (cases heq; done)
  · exact h.elim
theorem za_ishr (F : zFx b D cA cN k n0 Q p s m args meth c) (V : zVr b D cA cN k n0 L st n M s H locs cells slots ls) (hdg : decode (zb k) pc = .ok (.ishr, 1)) (h : zwI k n0 (zP l b D cA cN k n0 Q) (zent (zP l b D cA cN)) Q (57, pc + 1, [], 0) L st n M) : zGo l b D cA cN k Q p e s m args below meth c H locs cells slots (F0 m pc ls (st.map (zv b))) := by
  replace h : (match (generalizing := false) (match (generalizing := false) st with | (0, y) :: (0, x) :: r => some (True, L, (0, zshr x y) :: r, n, M) | _ => none : Option (Prop × List zV × List zV × Int × zM)) with | some (g, L2, st2, n2, M2) => g ∧ zP l b D cA cN k n0 Q (pc + 1) L2 st2 n2 M2 | none => False) := h
  split at h
  · rename_i heq
    split at heq <;> first | (cases heq; exact zo_ishr F V hdg h.2) | (cases heq; done)
  · exact h.elim
theorem za_iushr (F : zFx b D cA cN k n0 Q p s m args meth c) (V : zVr b D cA cN k n0 L st n M s H locs cells slots ls) (hdg : decode (zb k) pc = .ok (.iushr, 1)) (h : zwI k n0 (zP l b D cA cN k n0 Q) (zent (zP l b D cA cN)) Q (58, pc + 1, [], 0) L st n M) : zGo l b D cA cN k Q p e s m args below meth c H locs cells slots (F0 m pc ls (st.map (zv b))) := by
  replace h : (match (generalizing := false) (match (generalizing := false) st with | (0, y) :: (0, x) :: r => some (True, L, (0, zushr x y) :: r, n, M) | _ => none : Option (Prop × List zV × List zV × Int × zM)) with | some (g, L2, st2, n2, M2) => g ∧ zP l b D cA cN k n0 Q (pc + 1) L2 st2 n2 M2 | none => False) := h
  split at h
  · rename_i heq
    split at heq <;> first | (cases heq; exact zo_iushr F V hdg h.2) | (cases heq; done)
  · exact h.elim
theorem za_ladd (F : zFx b D cA cN k n0 Q p s m args meth c) (V : zVr b D cA cN k n0 L st n M s H locs cells slots ls) (hdg : decode (zb k) pc = .ok (.ladd, 1)) (h : zwI k n0 (zP l b D cA cN k n0 Q) (zent (zP l b D cA cN)) Q (60, pc + 1, [], 0) L st n M) : zGo l b D cA cN k Q p e s m args below meth c H locs cells slots (F0 m pc ls (st.map (zv b))) := by
  replace h : (match (generalizing := false) (match (generalizing := false) st with | (1, y) :: (1, x) :: r => some (True, L, (1, zW (x + y)) :: r, n, M) | _ => none : Option (Prop × List zV × List zV × Int × zM)) with | some (g, L2, st2, n2, M2) => g ∧ zP l b D cA cN k n0 Q (pc + 1) L2 st2 n2 M2 | none => False) := h
  split at h
  · rename_i heq
    split at heq <;> first | (cases heq; exact zo_ladd F V hdg h.2) | (cases heq; done)
  · exact h.elim
theorem za_lsub (F : zFx b D cA cN k n0 Q p s m args meth c) (V : zVr b D cA cN k n0 L st n M s H locs cells slots ls) (hdg : decode (zb k) pc = .ok (.lsub, 1)) (h : zwI k n0 (zP l b D cA cN k n0 Q) (zent (zP l b D cA cN)) Q (61, pc + 1, [], 0) L st n M) : zGo l b D cA cN k Q p e s m args below meth c H locs cells slots (F0 m pc ls (st.map (zv b))) := by
  replace h : (match (generalizing := false) (match (generalizing := false) st with | (1, y) :: (1, x) :: r => some (True, L, (1, zW (x - y)) :: r, n, M) | _ => none : Option (Prop × List zV × List zV × Int × zM)) with | some (g, L2, st2, n2, M2) => g ∧ zP l b D cA cN k n0 Q (pc + 1) L2 st2 n2 M2 | none => False) := h
  split at h
  · rename_i heq
    split at heq <;> first | (cases heq; exact zo_lsub F V hdg h.2) | (cases heq; done)
  · exact h.elim
theorem za_lmul (F : zFx b D cA cN k n0 Q p s m args meth c) (V : zVr b D cA cN k n0 L st n M s H locs cells slots ls) (hdg : decode (zb k) pc = .ok (.lmul, 1)) (h : zwI k n0 (zP l b D cA cN k n0 Q) (zent (zP l b D cA cN)) Q (62, pc + 1, [], 0) L st n M) : zGo l b D cA cN k Q p e s m args below meth c H locs cells slots (F0 m pc ls (st.map (zv b))) := by
  replace h : (match (generalizing := false) (match (generalizing := false) st with | (1, y) :: (1, x) :: r => some (True, L, (1, zW (x * y)) :: r, n, M) | _ => none : Option (Prop × List zV × List zV × Int × zM)) with | some (g, L2, st2, n2, M2) => g ∧ zP l b D cA cN k n0 Q (pc + 1) L2 st2 n2 M2 | none => False) := h
  split at h
  · rename_i heq
    split at heq <;> first | (cases heq; exact zo_lmul F V hdg h.2) | (cases heq; done)
  · exact h.elim
theorem za_ineg (F : zFx b D cA cN k n0 Q p s m args meth c) (V : zVr b D cA cN k n0 L st n M s H locs cells slots ls) (hdg : decode (zb k) pc = .ok (.ineg, 1)) (h : zwI k n0 (zP l b D cA cN k n0 Q) (zent (zP l b D cA cN)) Q (11, pc + 1, [], 0) L st n M) : zGo l b D cA cN k Q p e s m args below meth c H locs cells slots (F0 m pc ls (st.map (zv b))) := by
  replace h : (match (generalizing := false) (match (generalizing := false) st with | (0, x) :: r => some (True, L, (0, zw (-x)) :: r, n, M) | _ => none : Option (Prop × List zV × List zV × Int × zM)) with | some (g, L2, st2, n2, M2) => g ∧ zP l b D cA cN k n0 Q (pc + 1) L2 st2 n2 M2 | none => False) := h
  split at h
  · rename_i heq
    split at heq <;> first | (cases heq; exact zo_ineg F V hdg h.2) | (cases heq; done)
  · exact h.elim
theorem za_i2l (F : zFx b D cA cN k n0 Q p s m args meth c) (V : zVr b D cA cN k n0 L st n M s H locs cells slots ls) (hdg : decode (zb k) pc = .ok (.i2l, 1)) (h : zwI k n0 (zP l b D cA cN k n0 Q) (zent (zP l b D cA cN)) Q (12, pc + 1, [], 0) L st n M) : zGo l b D cA cN k Q p e s m args below meth c H locs cells slots (F0 m pc ls (st.map (zv b))) := by
  replace h : (match (generalizing := false) (match (generalizing := false) st with | (0, x) :: r => some (True, L, (1, x) :: r, n, M) | _ => none : Option (Prop × List zV × List zV × Int × zM)) with | some (g, L2, st2, n2, M2) => g ∧ zP l b D cA cN k n0 Q (pc + 1) L2 st2 n2 M2 | none => False) := h
  split at h
  · rename_i heq
    split at heq <;> first | (cases heq; exact zo_i2l F V hdg h.2) | (cases heq; done)
  · exact h.elim
theorem za_lcmp (F : zFx b D cA cN k n0 Q p s m args meth c) (V : zVr b D cA cN k n0 L st n M s H locs cells slots ls) (hdg : decode (zb k) pc = .ok (.lcmp, 1)) (h : zwI k n0 (zP l b D cA cN k n0 Q) (zent (zP l b D cA cN)) Q (13, pc + 1, [], 0) L st n M) : zGo l b D cA cN k Q p e s m args below meth c H locs cells slots (F0 m pc ls (st.map (zv b))) := by
  replace h : (match (generalizing := false) (match (generalizing := false) st with | (1, y) :: (1, x) :: r => some (True, L, (0, zlcmp x y) :: r, n, M) | _ => none : Option (Prop × List zV × List zV × Int × zM)) with | some (g, L2, st2, n2, M2) => g ∧ zP l b D cA cN k n0 Q (pc + 1) L2 st2 n2 M2 | none => False) := h
  split at h
  · rename_i heq
    split at heq <;> first | (cases heq; exact zo_lcmp F V hdg h.2) | (cases heq; done)
  · exact h.elim
theorem za_dup (F : zFx b D cA cN k n0 Q p s m args meth c) (V : zVr b D cA cN k n0 L st n M s H locs cells slots ls) (hdg : decode (zb k) pc = .ok (.dup, 1)) (h : zwI k n0 (zP l b D cA cN k n0 Q) (zent (zP l b D cA cN)) Q (18, pc + 1, [], 0) L st n M) : zGo l b D cA cN k Q p e s m args below meth c H locs cells slots (F0 m pc ls (st.map (zv b))) := by
  replace h : (match (generalizing := false) (match (generalizing := false) st with | (0, x) :: r => some (True, L, (0, x) :: (0, x) :: r, n, M) | (2, x) :: r => some (True, L, (2, x) :: (2, x) :: r, n, M) | _ => none : Option (Prop × List zV × List zV × Int × zM)) with | some (g, L2, st2, n2, M2) => g ∧ zP l b D cA cN k n0 Q (pc + 1) L2 st2 n2 M2 | none => False) := h
  split at h
  · rename_i heq
    split at heq <;> first | (cases heq; exact zo_dup F V hdg (by dsimp only; omega) h.2) | (cases heq; done)
  · exact h.elim
theorem za_dup2 (F : zFx b D cA cN k n0 Q p s m args meth c) (V : zVr b D cA cN k n0 L st n M s H locs cells slots ls) (hdg : decode (zb k) pc = .ok (.dup2, 1)) (h : zwI k n0 (zP l b D cA cN k n0 Q) (zent (zP l b D cA cN)) Q (19, pc + 1, [], 0) L st n M) : zGo l b D cA cN k Q p e s m args below meth c H locs cells slots (F0 m pc ls (st.map (zv b))) := by
  replace h : (match (generalizing := false) (match (generalizing := false) st with | (0, x) :: (2, a) :: r => some (True, L, (0, x) :: (2, a) :: (0, x) :: (2, a) :: r, n, M) | _ => none : Option (Prop × List zV × List zV × Int × zM)) with | some (g, L2, st2, n2, M2) => g ∧ zP l b D cA cN k n0 Q (pc + 1) L2 st2 n2 M2 | none => False) := h
  split at h
  · rename_i heq
    split at heq <;> first | (cases heq; exact zo_dup2 F V hdg (by dsimp only; omega) (by dsimp only; omega) h.2) | (cases heq; done)
  · exact h.elim
theorem za_pop (F : zFx b D cA cN k n0 Q p s m args meth c) (V : zVr b D cA cN k n0 L st n M s H locs cells slots ls) (hdg : decode (zb k) pc = .ok (.pop, 1)) (h : zwI k n0 (zP l b D cA cN k n0 Q) (zent (zP l b D cA cN)) Q (20, pc + 1, [], 0) L st n M) : zGo l b D cA cN k Q p e s m args below meth c H locs cells slots (F0 m pc ls (st.map (zv b))) := by
  replace h : (match (generalizing := false) (match (generalizing := false) st with | (0, _) :: r => some (True, L, r, n, M) | _ => none : Option (Prop × List zV × List zV × Int × zM)) with | some (g, L2, st2, n2, M2) => g ∧ zP l b D cA cN k n0 Q (pc + 1) L2 st2 n2 M2 | none => False) := h
  split at h
  · rename_i heq
    split at heq <;> first | (cases heq; exact zo_pop F V hdg (by dsimp only; omega) h.2) | (cases heq; done)
  · exact h.elim
theorem za_iaload (F : zFx b D cA cN k n0 Q p s m args meth c) (V : zVr b D cA cN k n0 L st n M s H locs cells slots ls) (hdg : decode (zb k) pc = .ok (.iaload, 1)) (h : zwI k n0 (zP l b D cA cN k n0 Q) (zent (zP l b D cA cN)) Q (26, pc + 1, [], 0) L st n M) : zGo l b D cA cN k Q p e s m args below meth c H locs cells slots (F0 m pc ls (st.map (zv b))) := by
  replace h : (match (generalizing := false) (match (generalizing := false) st with | (0, j) :: (2, a) :: r => some ((zKT a).1 = 0 ∧ 0 ≤ j ∧ j < (zKT a).2, L, (0, M a j) :: r, n, M) | _ => none : Option (Prop × List zV × List zV × Int × zM)) with | some (g, L2, st2, n2, M2) => g ∧ zP l b D cA cN k n0 Q (pc + 1) L2 st2 n2 M2 | none => False) := h
  split at h
  · rename_i heq
    split at heq <;> first | (cases heq; exact zo_iaload F V hdg h.1.1 h.1.2.1 h.1.2.2 h.2) | (cases heq; done)
  · exact h.elim
theorem za_iastore (F : zFx b D cA cN k n0 Q p s m args meth c) (V : zVr b D cA cN k n0 L st n M s H locs cells slots ls) (hdg : decode (zb k) pc = .ok (.iastore, 1)) (h : zwI k n0 (zP l b D cA cN k n0 Q) (zent (zP l b D cA cN)) Q (27, pc + 1, [], 0) L st n M) : zGo l b D cA cN k Q p e s m args below meth c H locs cells slots (F0 m pc ls (st.map (zv b))) := by
  replace h : (match (generalizing := false) (match (generalizing := false) st with | (0, x) :: (0, j) :: (2, a) :: r => some ((zKT a).1 = 0 ∧ 0 ≤ j ∧ j < (zKT a).2, L, r, n, zset M a j x) | _ => none : Option (Prop × List zV × List zV × Int × zM)) with | some (g, L2, st2, n2, M2) => g ∧ zP l b D cA cN k n0 Q (pc + 1) L2 st2 n2 M2 | none => False) := h
  split at h
  · rename_i heq
    split at heq <;> first | (cases heq; exact zo_iastore F V hdg h.1.1 h.1.2.1 h.1.2.2 h.2) | (cases heq; done)
  · exact h.elim
theorem za_aaload (F : zFx b D cA cN k n0 Q p s m args meth c) (V : zVr b D cA cN k n0 L st n M s H locs cells slots ls) (hdg : decode (zb k) pc = .ok (.aaload, 1)) (h : zwI k n0 (zP l b D cA cN k n0 Q) (zent (zP l b D cA cN)) Q (28, pc + 1, [], 0) L st n M) : zGo l b D cA cN k Q p e s m args below meth c H locs cells slots (F0 m pc ls (st.map (zv b))) := by
  replace h : (match (generalizing := false) (match (generalizing := false) st with | (0, j) :: (2, a) :: r => some ((zKT a).1 = 1 ∧ 0 ≤ j ∧ j < (zKT a).2, L, (2, M a j) :: r, n, M) | _ => none : Option (Prop × List zV × List zV × Int × zM)) with | some (g, L2, st2, n2, M2) => g ∧ zP l b D cA cN k n0 Q (pc + 1) L2 st2 n2 M2 | none => False) := h
  split at h
  · rename_i heq
    split at heq <;> first | (cases heq; exact zo_aaload F V hdg h.1.1 h.1.2.1 h.1.2.2 h.2) | (cases heq; done)
  · exact h.elim
theorem za_aastore (F : zFx b D cA cN k n0 Q p s m args meth c) (V : zVr b D cA cN k n0 L st n M s H locs cells slots ls) (hdg : decode (zb k) pc = .ok (.aastore, 1)) (h : zwI k n0 (zP l b D cA cN k n0 Q) (zent (zP l b D cA cN)) Q (29, pc + 1, [], 0) L st n M) : zGo l b D cA cN k Q p e s m args below meth c H locs cells slots (F0 m pc ls (st.map (zv b))) := by
  replace h : (match (generalizing := false) (match (generalizing := false) st with | (2, x) :: (0, j) :: (2, a) :: r => some ((zKT a).1 = 1 ∧ 0 ≤ j ∧ j < (zKT a).2 ∧ zKT x = (2, 1), L, r, n, zset M a j x) | _ => none : Option (Prop × List zV × List zV × Int × zM)) with | some (g, L2, st2, n2, M2) => g ∧ zP l b D cA cN k n0 Q (pc + 1) L2 st2 n2 M2 | none => False) := h
  split at h
  · rename_i heq
    split at heq <;> first | (cases heq; exact zo_aastore F V hdg h.1.1 h.1.2.1 h.1.2.2.1 h.1.2.2.2 h.2) | (cases heq; done)
  · exact h.elim
theorem za_arraylength (F : zFx b D cA cN k n0 Q p s m args meth c) (V : zVr b D cA cN k n0 L st n M s H locs cells slots ls) (hdg : decode (zb k) pc = .ok (.arraylength, 1)) (h : zwI k n0 (zP l b D cA cN k n0 Q) (zent (zP l b D cA cN)) Q (30, pc + 1, [], 0) L st n M) : zGo l b D cA cN k Q p e s m args below meth c H locs cells slots (F0 m pc ls (st.map (zv b))) := by
  replace h : (match (generalizing := false) (match (generalizing := false) st with | (2, a) :: r => some ((zKT a).1 = 0, L, (0, (zKT a).2) :: r, n, M) | _ => none : Option (Prop × List zV × List zV × Int × zM)) with | some (g, L2, st2, n2, M2) => g ∧ zP l b D cA cN k n0 Q (pc + 1) L2 st2 n2 M2 | none => False) := h
  split at h
  · rename_i heq
    split at heq <;> first | (cases heq; exact zo_arraylength F V hdg h.1 (Nat.lt_of_le_of_lt (zKT_r _) (by decide)) h.2) | (cases heq; done)
  · exact h.elim
theorem za_getfield {ci fk : Nat} (F : zFx b D cA cN k n0 Q p s m args meth c) (V : zVr b D cA cN k n0 L st n M s H locs cells slots ls) (hdg : decode (zb k) pc = .ok (.getfield i, 3)) (hv : zfl (zoc k) i = some (ci, fk)) (h : zwI k n0 (zP l b D cA cN k n0 Q) (zent (zP l b D cA cN)) Q (21, pc + 3, [ci, fk], 0) L st n M) : zGo l b D cA cN k Q p e s m args below meth c H locs cells slots (F0 m pc ls (st.map (zv b))) := by
  replace h : (match (generalizing := false) (match (generalizing := false) st with | (2, a) :: r => some (zKT a = (2, (ci)), L, (zft ((ci)) ((fk)), M a ((fk))) :: r, n, M) | _ => none : Option (Prop × List zV × List zV × Int × zM)) with | some (g, L2, st2, n2, M2) => g ∧ zP l b D cA cN k n0 Q (pc + 3) L2 st2 n2 M2 | none => False) := h
  split at h
  · rename_i heq
    split at heq <;> first | (cases heq; exact zo_getfield F V hdg (zat_ok zFL_a _ (List.mem_map_of_mem (f := zFw) (zfl_in hv))) (zFL_r _ (zfl_in hv)).1 (zFL_r _ (zfl_in hv)).2 h.1 h.2) | (cases heq; done)
  · exact h.elim
theorem za_putfield24 {ci fk : Nat} (F : zFx b D cA cN k n0 Q p s m args meth c) (V : zVr b D cA cN k n0 L st n M s H locs cells slots ls) (hdg : decode (zb k) pc = .ok (.putfield i, 3)) (hv : zfl (zoc k) i = some (ci, fk)) (hfin : zfin ci fk = true → zini k = true ∧ ci = zoc k) (hft : zft ci fk = 1) (hb : ∀ x : Int, zboo ci fk = true → x = 0 ∨ x = 1) (h : zwI k n0 (zP l b D cA cN k n0 Q) (zent (zP l b D cA cN)) Q (24, pc + 3, [ci, fk], 0) L st n M) : zGo l b D cA cN k Q p e s m args below meth c H locs cells slots (F0 m pc ls (st.map (zv b))) := by
  replace h : (match (generalizing := false) (match (generalizing := false) st with | (1, x) :: (2, a) :: r => some (zKT a = (2, (ci)), L, r, n, zset M a ((fk)) x) | _ => none : Option (Prop × List zV × List zV × Int × zM)) with | some (g, L2, st2, n2, M2) => g ∧ zP l b D cA cN k n0 Q (pc + 3) L2 st2 n2 M2 | none => False) := h
  split at h
  · rename_i heq
    split at heq <;> first | (cases heq; exact zo_putfield F V hdg (zat_ok zFL_a _ (List.mem_map_of_mem (f := zFw) (zfl_in hv))) (zFL_r _ (zfl_in hv)).1 (zFL_r _ (zfl_in hv)).2 hfin hft (hb _) h.1 h.2) | (cases heq; done)
  · exact h.elim
theorem za_putfield25 {ci fk : Nat} (F : zFx b D cA cN k n0 Q p s m args meth c) (V : zVr b D cA cN k n0 L st n M s H locs cells slots ls) (hdg : decode (zb k) pc = .ok (.putfield i, 3)) (hv : zfl (zoc k) i = some (ci, fk)) (hfin : zfin ci fk = true → zini k = true ∧ ci = zoc k) (hft : zft ci fk = 2) (hb : ∀ x : Int, zboo ci fk = true → x = 0 ∨ x = 1) (h : zwI k n0 (zP l b D cA cN k n0 Q) (zent (zP l b D cA cN)) Q (25, pc + 3, [ci, fk], 0) L st n M) : zGo l b D cA cN k Q p e s m args below meth c H locs cells slots (F0 m pc ls (st.map (zv b))) := by
  replace h : (match (generalizing := false) (match (generalizing := false) st with | (2, x) :: (2, a) :: r => some (zKT a = (2, (ci)) ∧ 0 < x, L, r, n, zset M a ((fk)) x) | _ => none : Option (Prop × List zV × List zV × Int × zM)) with | some (g, L2, st2, n2, M2) => g ∧ zP l b D cA cN k n0 Q (pc + 3) L2 st2 n2 M2 | none => False) := h
  split at h
  · rename_i heq
    split at heq <;> first | (cases heq; exact zo_putfield F V hdg (zat_ok zFL_a _ (List.mem_map_of_mem (f := zFw) (zfl_in hv))) (zFL_r _ (zfl_in hv)).1 (zFL_r _ (zfl_in hv)).2 hfin hft (hb _) h.1.1 h.2) | (cases heq; done)
  · exact h.elim
theorem za_putfield23 {ci fk : Nat} (F : zFx b D cA cN k n0 Q p s m args meth c) (V : zVr b D cA cN k n0 L st n M s H locs cells slots ls) (hdg : decode (zb k) pc = .ok (.putfield i, 3)) (hv : zfl (zoc k) i = some (ci, fk)) (hfin : zfin ci fk = true → zini k = true ∧ ci = zoc k) (hft : zft ci fk = 0) (h : zwI k n0 (zP l b D cA cN k n0 Q) (zent (zP l b D cA cN)) Q (23, pc + 3, [ci, fk], 0) L st n M) : zGo l b D cA cN k Q p e s m args below meth c H locs cells slots (F0 m pc ls (st.map (zv b))) := by
  replace h : (match (generalizing := false) (match (generalizing := false) st with | (0, x) :: (2, a) :: r => some (zKT a = (2, (ci)) ∧ (x = 0 ∨ x = 1), L, r, n, zset M a ((fk)) x) | _ => none : Option (Prop × List zV × List zV × Int × zM)) with | some (g, L2, st2, n2, M2) => g ∧ zP l b D cA cN k n0 Q (pc + 3) L2 st2 n2 M2 | none => False) := h
  split at h
  · rename_i heq
    split at heq <;> first | (cases heq; exact zo_putfield F V hdg (zat_ok zFL_a _ (List.mem_map_of_mem (f := zFw) (zfl_in hv))) (zFL_r _ (zfl_in hv)).1 (zFL_r _ (zfl_in hv)).2 hfin hft (fun _ => h.1.2) h.1.1 h.2) | (cases heq; done)
  · exact h.elim
theorem za_putfield22 {ci fk : Nat} (F : zFx b D cA cN k n0 Q p s m args meth c) (V : zVr b D cA cN k n0 L st n M s H locs cells slots ls) (hdg : decode (zb k) pc = .ok (.putfield i, 3)) (hv : zfl (zoc k) i = some (ci, fk)) (hfin : zfin ci fk = true → zini k = true ∧ ci = zoc k) (hft : zft ci fk = 0) (hb : ∀ x : Int, zboo ci fk = true → x = 0 ∨ x = 1) (h : zwI k n0 (zP l b D cA cN k n0 Q) (zent (zP l b D cA cN)) Q (22, pc + 3, [ci, fk], 0) L st n M) : zGo l b D cA cN k Q p e s m args below meth c H locs cells slots (F0 m pc ls (st.map (zv b))) := by
  replace h : (match (generalizing := false) (match (generalizing := false) st with | (0, x) :: (2, a) :: r => some (zKT a = (2, (ci)), L, r, n, zset M a ((fk)) x) | _ => none : Option (Prop × List zV × List zV × Int × zM)) with | some (g, L2, st2, n2, M2) => g ∧ zP l b D cA cN k n0 Q (pc + 3) L2 st2 n2 M2 | none => False) := h
  split at h
  · rename_i heq
    split at heq <;> first | (cases heq; exact zo_putfield F V hdg (zat_ok zFL_a _ (List.mem_map_of_mem (f := zFw) (zfl_in hv))) (zFL_r _ (zfl_in hv)).1 (zFL_r _ (zfl_in hv)).2 hfin hft (hb _) h.1 h.2) | (cases heq; done)
  · exact h.elim
theorem za_new {ci : Nat} (F : zFx b D cA cN k n0 Q p s m args meth c) (V : zVr b D cA cN k n0 L st n M s H locs cells slots ls) (hdg : decode (zb k) pc = .ok (.new i, 3)) (hv : zckl (zoc k) i = some ci) (h : zwI k n0 (zP l b D cA cN k n0 Q) (zent (zP l b D cA cN)) Q (31, pc + 3, [ci], 0) L st n M) : zGo l b D cA cN k Q p e s m args below meth c H locs cells slots (F0 m pc ls (st.map (zv b))) := by
  unfold zwI zstep at h
  exact zo_new F V hdg (zat_ok zCK_a _ (List.mem_map_of_mem (f := fun e : Nat × Nat × Nat => Cond.classLink (zcnm e.1) e.2.1 (zcnm e.2.2)) (zckl_in hv))) (zCK_r _ (zckl_in hv)) h.1.1 h.1.2.1 h.1.2.2 h.2
theorem za_newarray (F : zFx b D cA cN k n0 Q p s m args meth c) (V : zVr b D cA cN k n0 L st n M s H locs cells slots ls) (hdg : decode (zb k) pc = .ok (.newarray .int, 2)) (h : zwI k n0 (zP l b D cA cN k n0 Q) (zent (zP l b D cA cN)) Q (32, pc + 2, [], 0) L st n M) : zGo l b D cA cN k Q p e s m args below meth c H locs cells slots (F0 m pc ls (st.map (zv b))) := by
  replace h : (match (generalizing := false) (match (generalizing := false) st with | (0, x) :: r => some (zKT (n + 1) = (0, x.toNat) ∧ 0 ≤ x ∧ n + 1 ≤ n0 + zmc k ∧ zsl (n + 1) ≤ zsl n0 + zms k, L, (2, n + 1) :: r, n + 1, M) | _ => none : Option (Prop × List zV × List zV × Int × zM)) with | some (g, L2, st2, n2, M2) => g ∧ zP l b D cA cN k n0 Q (pc + 2) L2 st2 n2 M2 | none => False) := h
  split at h
  · rename_i heq
    split at heq <;> first | (cases heq; exact zo_newarray F V hdg h.1.1 h.1.2.1 (by have := zKT_r (n + 1); have h1 := h.1.1; have h2 := h.1.2.1; rw [h1] at this; dsimp only at this; omega) h.1.2.2.1 h.1.2.2.2 h.2) | (cases heq; done)
  · exact h.elim
theorem za_anewarray (F : zFx b D cA cN k n0 Q p s m args meth c) (V : zVr b D cA cN k n0 L st n M s H locs cells slots ls) (hdg : decode (zb k) pc = .ok (.anewarray i, 3)) (hv : zckl (zoc k) i = some 1) (h : zwI k n0 (zP l b D cA cN k n0 Q) (zent (zP l b D cA cN)) Q (33, pc + 3, [], 0) L st n M) : zGo l b D cA cN k Q p e s m args below meth c H locs cells slots (F0 m pc ls (st.map (zv b))) := by
  replace h : (match (generalizing := false) (match (generalizing := false) st with | (0, x) :: r => some (zKT (n + 1) = (1, x.toNat) ∧ 0 ≤ x ∧ n + 1 ≤ n0 + zmc k ∧ zsl (n + 1) ≤ zsl n0 + zms k, L, (2, n + 1) :: r, n + 1, M) | _ => none : Option (Prop × List zV × List zV × Int × zM)) with | some (g, L2, st2, n2, M2) => g ∧ zP l b D cA cN k n0 Q (pc + 3) L2 st2 n2 M2 | none => False) := h
  split at h
  · rename_i heq
    split at heq <;> first | (cases heq; exact zo_anewarray F V hdg (zat_ok zCK_a _ (List.mem_map_of_mem (f := fun e : Nat × Nat × Nat => Cond.classLink (zcnm e.1) e.2.1 (zcnm e.2.2)) (zckl_in hv))) h.1.1 h.1.2.1 (by have := zKT_r (n + 1); have h1 := h.1.1; have h2 := h.1.2.1; rw [h1] at this; dsimp only at this; omega) h.1.2.2.1 h.1.2.2.2 h.2) | (cases heq; done)
  · exact h.elim
theorem za_arraycopy (F : zFx b D cA cN k n0 Q p s m args meth c) (V : zVr b D cA cN k n0 L st n M s H locs cells slots ls) (hdg : decode (zb k) pc = .ok (.invokestatic i, 3)) (hv : (zoc k, i) ∈ zAC) (h : zwI k n0 (zP l b D cA cN k n0 Q) (zent (zP l b D cA cN)) Q (40, pc + 3, [], 0) L st n M) : zGo l b D cA cN k Q p e s m args below meth c H locs cells slots (F0 m pc ls (st.map (zv b))) := by
  replace h : (match (generalizing := false) (match (generalizing := false) st with | (0, m) :: (0, dp) :: (2, d) :: (0, sp) :: (2, q) :: r => some ((zKT q).1 = 0 ∧ (zKT d).1 = 0 ∧ 0 ≤ sp ∧ 0 ≤ dp ∧ 0 ≤ m ∧ sp + m ≤ (zKT q).2 ∧ dp + m ≤ (zKT d).2 ∧ zcats r ≤ 8 ∧ 1 ≤ zfr k ∧ 26 ≤ zlo k, L, r, n, zcopy M q sp d dp m) | _ => none : Option (Prop × List zV × List zV × Int × zM)) with | some (g, L2, st2, n2, M2) => g ∧ zP l b D cA cN k n0 Q (pc + 3) L2 st2 n2 M2 | none => False) := h
  split at h
  · rename_i heq
    split at heq <;> first | (cases heq; exact zo_arraycopy F V hdg (zat_ok zAC_a _ (List.mem_map_of_mem (f := fun e : Nat × Nat => Cond.methodLink (zcnm e.1) e.2 arraycopyName) hv)) h.1.1 h.1.2.1 h.1.2.2.1 h.1.2.2.2.1 h.1.2.2.2.2.1 h.1.2.2.2.2.2.1 h.1.2.2.2.2.2.2.1 h.1.2.2.2.2.2.2.2.1 h.1.2.2.2.2.2.2.2.2.1 h.1.2.2.2.2.2.2.2.2.2 h.2) | (cases heq; done)
  · exact h.elim
theorem za_abs (F : zFx b D cA cN k n0 Q p s m args meth c) (V : zVr b D cA cN k n0 L st n M s H locs cells slots ls) (hdg : decode (zb k) pc = .ok (.invokestatic i, 3)) (hv : (zoc k, i) ∈ zAB) (h : zwI k n0 (zP l b D cA cN k n0 Q) (zent (zP l b D cA cN)) Q (42, pc + 3, [], 0) L st n M) : zGo l b D cA cN k Q p e s m args below meth c H locs cells slots (F0 m pc ls (st.map (zv b))) := by
  replace h : (match (generalizing := false) (match (generalizing := false) st with | (0, x) :: r => some (zcats r ≤ 8 ∧ 1 ≤ zfr k ∧ 21 ≤ zlo k, L, (0, if 0 ≤ x then x else zw (0 - x)) :: r, n, M) | _ => none : Option (Prop × List zV × List zV × Int × zM)) with | some (g, L2, st2, n2, M2) => g ∧ zP l b D cA cN k n0 Q (pc + 3) L2 st2 n2 M2 | none => False) := h
  split at h
  · rename_i heq
    split at heq <;> first | (cases heq; exact zo_abs F V hdg (zat_ok zAB_a _ (List.mem_map_of_mem (f := fun e : Nat × Nat => Cond.methodLink (zcnm e.1) e.2 Lib.Math.abs.name) hv)) h.1.1 h.1.2.1 h.1.2.2 h.2) | (cases heq; done)
  · exact h.elim
theorem za_objInit (F : zFx b D cA cN k n0 Q p s m args meth c) (V : zVr b D cA cN k n0 L st n M s H locs cells slots ls) (hdg : decode (zb k) pc = .ok (.invokespecial i, 3)) (hv : (zoc k, i) ∈ zOI) (h : zwI k n0 (zP l b D cA cN k n0 Q) (zent (zP l b D cA cN)) Q (41, pc + 3, [], 0) L st n M) : zGo l b D cA cN k Q p e s m args below meth c H locs cells slots (F0 m pc ls (st.map (zv b))) := by
  replace h : (match (generalizing := false) (match (generalizing := false) st with | (2, a) :: r => some (0 < a ∧ zcats r ≤ 8 ∧ 1 ≤ zfr k ∧ 20 ≤ zlo k, L, r, n, M) | _ => none : Option (Prop × List zV × List zV × Int × zM)) with | some (g, L2, st2, n2, M2) => g ∧ zP l b D cA cN k n0 Q (pc + 3) L2 st2 n2 M2 | none => False) := h
  split at h
  · rename_i heq
    split at heq <;> first | (cases heq; exact zo_objInit F V hdg (zat_ok zOI_a _ (List.mem_map_of_mem (f := fun e : Nat × Nat => Cond.methodLink (zcnm e.1) e.2 objectInit) hv)) h.1.1 h.1.2.1 h.1.2.2.1 h.1.2.2.2 h.2) | (cases heq; done)
  · exact h.elim
theorem za_icmp_eq (F : zFx b D cA cN k n0 Q p s m args meth c) (V : zVr b D cA cN k n0 L st n M s H locs cells slots ls) (hdg : decode (zb k) pc = .ok (.if_icmp .eq off, 3)) (ho : 0 ≤ (pc : Int) + off) (h : zwI k n0 (zP l b D cA cN k n0 Q) (zent (zP l b D cA cN)) Q (70, pc + 3, [((pc : Int) + off).toNat], 0) L st n M) : zGo l b D cA cN k Q p e s m args below meth c H locs cells slots (F0 m pc ls (st.map (zv b))) := by
  replace h : (match (generalizing := false) st with | (0, y) :: (0, x) :: r => (x = y → zP l b D cA cN k n0 Q ((((pc : Int) + off).toNat)) L r n M) ∧ (¬ x = y → zP l b D cA cN k n0 Q (pc + 3) L r n M) | _ => False) := h
  split at h
  · exact zo_icmp_eq F V hdg (by omega) h.1 h.2
  · exact h.elim
theorem za_if_eq (F : zFx b D cA cN k n0 Q p s m args meth c) (V : zVr b D cA cN k n0 L st n M s H locs cells slots ls) (hdg : decode (zb k) pc = .ok (.ifCond .eq off, 3)) (ho : 0 ≤ (pc : Int) + off) (h : zwI k n0 (zP l b D cA cN k n0 Q) (zent (zP l b D cA cN)) Q (80, pc + 3, [((pc : Int) + off).toNat], 0) L st n M) : zGo l b D cA cN k Q p e s m args below meth c H locs cells slots (F0 m pc ls (st.map (zv b))) := by
  replace h : (match (generalizing := false) st with | (0, x) :: r => (x = 0 → zP l b D cA cN k n0 Q ((((pc : Int) + off).toNat)) L r n M) ∧ (¬ x = 0 → zP l b D cA cN k n0 Q (pc + 3) L r n M) | _ => False) := h
  split at h
  · exact zo_if_eq F V hdg (by omega) h.1 h.2
  · exact h.elim
theorem za_icmp_ne (F : zFx b D cA cN k n0 Q p s m args meth c) (V : zVr b D cA cN k n0 L st n M s H locs cells slots ls) (hdg : decode (zb k) pc = .ok (.if_icmp .ne off, 3)) (ho : 0 ≤ (pc : Int) + off) (h : zwI k n0 (zP l b D cA cN k n0 Q) (zent (zP l b D cA cN)) Q (71, pc + 3, [((pc : Int) + off).toNat], 0) L st n M) : zGo l b D cA cN k Q p e s m args below meth c H locs cells slots (F0 m pc ls (st.map (zv b))) := by
  replace h : (match (generalizing := false) st with | (0, y) :: (0, x) :: r => (¬ x = y → zP l b D cA cN k n0 Q ((((pc : Int) + off).toNat)) L r n M) ∧ (x = y → zP l b D cA cN k n0 Q (pc + 3) L r n M) | _ => False) := h
  split at h
  · exact zo_icmp_ne F V hdg (by omega) h.1 h.2
  · exact h.elim
theorem za_if_ne (F : zFx b D cA cN k n0 Q p s m args meth c) (V : zVr b D cA cN k n0 L st n M s H locs cells slots ls) (hdg : decode (zb k) pc = .ok (.ifCond .ne off, 3)) (ho : 0 ≤ (pc : Int) + off) (h : zwI k n0 (zP l b D cA cN k n0 Q) (zent (zP l b D cA cN)) Q (81, pc + 3, [((pc : Int) + off).toNat], 0) L st n M) : zGo l b D cA cN k Q p e s m args below meth c H locs cells slots (F0 m pc ls (st.map (zv b))) := by
  replace h : (match (generalizing := false) st with | (0, x) :: r => (¬ x = 0 → zP l b D cA cN k n0 Q ((((pc : Int) + off).toNat)) L r n M) ∧ (x = 0 → zP l b D cA cN k n0 Q (pc + 3) L r n M) | _ => False) := h
  split at h
  · exact zo_if_ne F V hdg (by omega) h.1 h.2
  · exact h.elim
theorem za_icmp_lt (F : zFx b D cA cN k n0 Q p s m args meth c) (V : zVr b D cA cN k n0 L st n M s H locs cells slots ls) (hdg : decode (zb k) pc = .ok (.if_icmp .lt off, 3)) (ho : 0 ≤ (pc : Int) + off) (h : zwI k n0 (zP l b D cA cN k n0 Q) (zent (zP l b D cA cN)) Q (72, pc + 3, [((pc : Int) + off).toNat], 0) L st n M) : zGo l b D cA cN k Q p e s m args below meth c H locs cells slots (F0 m pc ls (st.map (zv b))) := by
  replace h : (match (generalizing := false) st with | (0, y) :: (0, x) :: r => (x < y → zP l b D cA cN k n0 Q ((((pc : Int) + off).toNat)) L r n M) ∧ (¬ x < y → zP l b D cA cN k n0 Q (pc + 3) L r n M) | _ => False) := h
  split at h
  · exact zo_icmp_lt F V hdg (by omega) h.1 h.2
  · exact h.elim
theorem za_if_lt (F : zFx b D cA cN k n0 Q p s m args meth c) (V : zVr b D cA cN k n0 L st n M s H locs cells slots ls) (hdg : decode (zb k) pc = .ok (.ifCond .lt off, 3)) (ho : 0 ≤ (pc : Int) + off) (h : zwI k n0 (zP l b D cA cN k n0 Q) (zent (zP l b D cA cN)) Q (82, pc + 3, [((pc : Int) + off).toNat], 0) L st n M) : zGo l b D cA cN k Q p e s m args below meth c H locs cells slots (F0 m pc ls (st.map (zv b))) := by
  replace h : (match (generalizing := false) st with | (0, x) :: r => (x < 0 → zP l b D cA cN k n0 Q ((((pc : Int) + off).toNat)) L r n M) ∧ (¬ x < 0 → zP l b D cA cN k n0 Q (pc + 3) L r n M) | _ => False) := h
  split at h
  · exact zo_if_lt F V hdg (by omega) h.1 h.2
  · exact h.elim
theorem za_icmp_ge (F : zFx b D cA cN k n0 Q p s m args meth c) (V : zVr b D cA cN k n0 L st n M s H locs cells slots ls) (hdg : decode (zb k) pc = .ok (.if_icmp .ge off, 3)) (ho : 0 ≤ (pc : Int) + off) (h : zwI k n0 (zP l b D cA cN k n0 Q) (zent (zP l b D cA cN)) Q (73, pc + 3, [((pc : Int) + off).toNat], 0) L st n M) : zGo l b D cA cN k Q p e s m args below meth c H locs cells slots (F0 m pc ls (st.map (zv b))) := by
  replace h : (match (generalizing := false) st with | (0, y) :: (0, x) :: r => (¬ x < y → zP l b D cA cN k n0 Q ((((pc : Int) + off).toNat)) L r n M) ∧ (x < y → zP l b D cA cN k n0 Q (pc + 3) L r n M) | _ => False) := h
  split at h
  · exact zo_icmp_ge F V hdg (by omega) h.1 h.2
  · exact h.elim
theorem za_if_ge (F : zFx b D cA cN k n0 Q p s m args meth c) (V : zVr b D cA cN k n0 L st n M s H locs cells slots ls) (hdg : decode (zb k) pc = .ok (.ifCond .ge off, 3)) (ho : 0 ≤ (pc : Int) + off) (h : zwI k n0 (zP l b D cA cN k n0 Q) (zent (zP l b D cA cN)) Q (83, pc + 3, [((pc : Int) + off).toNat], 0) L st n M) : zGo l b D cA cN k Q p e s m args below meth c H locs cells slots (F0 m pc ls (st.map (zv b))) := by
  replace h : (match (generalizing := false) st with | (0, x) :: r => (¬ x < 0 → zP l b D cA cN k n0 Q ((((pc : Int) + off).toNat)) L r n M) ∧ (x < 0 → zP l b D cA cN k n0 Q (pc + 3) L r n M) | _ => False) := h
  split at h
  · exact zo_if_ge F V hdg (by omega) h.1 h.2
  · exact h.elim
theorem za_icmp_gt (F : zFx b D cA cN k n0 Q p s m args meth c) (V : zVr b D cA cN k n0 L st n M s H locs cells slots ls) (hdg : decode (zb k) pc = .ok (.if_icmp .gt off, 3)) (ho : 0 ≤ (pc : Int) + off) (h : zwI k n0 (zP l b D cA cN k n0 Q) (zent (zP l b D cA cN)) Q (74, pc + 3, [((pc : Int) + off).toNat], 0) L st n M) : zGo l b D cA cN k Q p e s m args below meth c H locs cells slots (F0 m pc ls (st.map (zv b))) := by
  replace h : (match (generalizing := false) st with | (0, y) :: (0, x) :: r => (y < x → zP l b D cA cN k n0 Q ((((pc : Int) + off).toNat)) L r n M) ∧ (¬ y < x → zP l b D cA cN k n0 Q (pc + 3) L r n M) | _ => False) := h
  split at h
  · exact zo_icmp_gt F V hdg (by omega) h.1 h.2
  · exact h.elim
theorem za_if_gt (F : zFx b D cA cN k n0 Q p s m args meth c) (V : zVr b D cA cN k n0 L st n M s H locs cells slots ls) (hdg : decode (zb k) pc = .ok (.ifCond .gt off, 3)) (ho : 0 ≤ (pc : Int) + off) (h : zwI k n0 (zP l b D cA cN k n0 Q) (zent (zP l b D cA cN)) Q (84, pc + 3, [((pc : Int) + off).toNat], 0) L st n M) : zGo l b D cA cN k Q p e s m args below meth c H locs cells slots (F0 m pc ls (st.map (zv b))) := by
  replace h : (match (generalizing := false) st with | (0, x) :: r => (0 < x → zP l b D cA cN k n0 Q ((((pc : Int) + off).toNat)) L r n M) ∧ (¬ 0 < x → zP l b D cA cN k n0 Q (pc + 3) L r n M) | _ => False) := h
  split at h
  · exact zo_if_gt F V hdg (by omega) h.1 h.2
  · exact h.elim
theorem za_icmp_le (F : zFx b D cA cN k n0 Q p s m args meth c) (V : zVr b D cA cN k n0 L st n M s H locs cells slots ls) (hdg : decode (zb k) pc = .ok (.if_icmp .le off, 3)) (ho : 0 ≤ (pc : Int) + off) (h : zwI k n0 (zP l b D cA cN k n0 Q) (zent (zP l b D cA cN)) Q (75, pc + 3, [((pc : Int) + off).toNat], 0) L st n M) : zGo l b D cA cN k Q p e s m args below meth c H locs cells slots (F0 m pc ls (st.map (zv b))) := by
  replace h : (match (generalizing := false) st with | (0, y) :: (0, x) :: r => (¬ y < x → zP l b D cA cN k n0 Q ((((pc : Int) + off).toNat)) L r n M) ∧ (y < x → zP l b D cA cN k n0 Q (pc + 3) L r n M) | _ => False) := h
  split at h
  · exact zo_icmp_le F V hdg (by omega) h.1 h.2
  · exact h.elim
theorem za_if_le (F : zFx b D cA cN k n0 Q p s m args meth c) (V : zVr b D cA cN k n0 L st n M s H locs cells slots ls) (hdg : decode (zb k) pc = .ok (.ifCond .le off, 3)) (ho : 0 ≤ (pc : Int) + off) (h : zwI k n0 (zP l b D cA cN k n0 Q) (zent (zP l b D cA cN)) Q (85, pc + 3, [((pc : Int) + off).toNat], 0) L st n M) : zGo l b D cA cN k Q p e s m args below meth c H locs cells slots (F0 m pc ls (st.map (zv b))) := by
  replace h : (match (generalizing := false) st with | (0, x) :: r => (¬ 0 < x → zP l b D cA cN k n0 Q ((((pc : Int) + off).toNat)) L r n M) ∧ (0 < x → zP l b D cA cN k n0 Q (pc + 3) L r n M) | _ => False) := h
  split at h
  · exact zo_if_le F V hdg (by omega) h.1 h.2
  · exact h.elim
theorem za_ifnull (F : zFx b D cA cN k n0 Q p s m args meth c) (V : zVr b D cA cN k n0 L st n M s H locs cells slots ls) (hdg : decode (zb k) pc = .ok (.ifnull off, 3)) (ho : 0 ≤ (pc : Int) + off) (h : zwI k n0 (zP l b D cA cN k n0 Q) (zent (zP l b D cA cN)) Q (16, pc + 3, [((pc : Int) + off).toNat], 0) L st n M) : zGo l b D cA cN k Q p e s m args below meth c H locs cells slots (F0 m pc ls (st.map (zv b))) := by
  replace h : (match (generalizing := false) st with | (2, x) :: r => (x ≤ 0 → zP l b D cA cN k n0 Q ((((pc : Int) + off).toNat)) L r n M) ∧ (¬ x ≤ 0 → zP l b D cA cN k n0 Q (pc + 3) L r n M) | _ => False) := h
  split at h
  · exact zo_ifnull F V hdg (by omega) h.1 h.2
  · exact h.elim
theorem za_goto (F : zFx b D cA cN k n0 Q p s m args meth c) (V : zVr b D cA cN k n0 L st n M s H locs cells slots ls) (hdg : decode (zb k) pc = .ok (.goto off, 3)) (ho : 0 ≤ (pc : Int) + off) (h : zwI k n0 (zP l b D cA cN k n0 Q) (zent (zP l b D cA cN)) Q (17, pc + 3, [((pc : Int) + off).toNat], 0) L st n M) : zGo l b D cA cN k Q p e s m args below meth c H locs cells slots (F0 m pc ls (st.map (zv b))) := by
  exact zo_goto (tgt := ((pc : Int) + off).toNat) F V hdg (by omega) h
theorem za_ireturn (F : zFx b D cA cN k n0 Q p s m args meth c) (V : zVr b D cA cN k n0 L st n M s H locs cells slots ls) (hdg : decode (zb k) pc = .ok (.ireturn, 1)) (hrt : zrt k = 0) (h : zwI k n0 (zP l b D cA cN k n0 Q) (zent (zP l b D cA cN)) Q (35, 0, [], 0) L st n M) : zGo l b D cA cN k Q p e s m args below meth c H locs cells slots (F0 m pc ls (st.map (zv b))) := by
  replace h : (match (generalizing := false) st with | [(0, x)] => Q x n M | _ => False) := h
  split at h
  · exact zo_ireturn F V hdg hrt h
  · exact h.elim
theorem za_zreturn (F : zFx b D cA cN k n0 Q p s m args meth c) (V : zVr b D cA cN k n0 L st n M s H locs cells slots ls) (hdg : decode (zb k) pc = .ok (.ireturn, 1)) (hrt : zrt k = 3) (h : zwI k n0 (zP l b D cA cN k n0 Q) (zent (zP l b D cA cN)) Q (36, 0, [], 0) L st n M) : zGo l b D cA cN k Q p e s m args below meth c H locs cells slots (F0 m pc ls (st.map (zv b))) := by
  replace h : (match (generalizing := false) st with | [(0, x)] => (x = 0 ∨ x = 1) ∧ Q x n M | _ => False) := h
  split at h
  · exact zo_zreturn F V hdg hrt h.1 h.2
  · exact h.elim
theorem za_lreturn (F : zFx b D cA cN k n0 Q p s m args meth c) (V : zVr b D cA cN k n0 L st n M s H locs cells slots ls) (hdg : decode (zb k) pc = .ok (.lreturn, 1)) (hrt : zrt k = 1) (h : zwI k n0 (zP l b D cA cN k n0 Q) (zent (zP l b D cA cN)) Q (37, 0, [], 0) L st n M) : zGo l b D cA cN k Q p e s m args below meth c H locs cells slots (F0 m pc ls (st.map (zv b))) := by
  replace h : (match (generalizing := false) st with | [(1, x)] => Q x n M | _ => False) := h
  split at h
  · exact zo_lreturn F V hdg hrt h
  · exact h.elim
theorem za_return (F : zFx b D cA cN k n0 Q p s m args meth c) (V : zVr b D cA cN k n0 L st n M s H locs cells slots ls) (hdg : decode (zb k) pc = .ok (.return_, 1)) (hrt : zrt k = 2) (h : zwI k n0 (zP l b D cA cN k n0 Q) (zent (zP l b D cA cN)) Q (38, 0, [], 0) L st n M) : zGo l b D cA cN k Q p e s m args below meth c H locs cells slots (F0 m pc ls (st.map (zv b))) := by
  replace h : (match (generalizing := false) st with | [] => Q 0 n M | _ => False) := h
  split at h
  · exact zo_return F V hdg hrt h
  · exact h.elim
theorem za_table {d lo hi : Int} {offs : Array Int} {len : Nat} (F : zFx b D cA cN k n0 Q p s m args meth c) (V : zVr b D cA cN k n0 L st n M s H locs cells slots ls) (hdg : decode (zb k) pc = .ok (.tableswitch d lo hi offs, len)) (ho : 0 ≤ (pc : Int) + d ∧ lo ≤ hi ∧ -2147483648 ≤ lo ∧ hi < 2147483648 ∧ (offs.size : Int) = hi - lo + 1 ∧ (offs.toList.all (fun o => decide (0 ≤ (pc : Int) + o))) = true) (h : zwI k n0 (zP l b D cA cN k n0 Q) (zent (zP l b D cA cN)) Q (39, 0, ((pc : Int) + d).toNat :: offs.toList.map (fun o => ((pc : Int) + o).toNat), lo) L st n M) : zGo l b D cA cN k Q p e s m args below meth c H locs cells slots (F0 m pc ls (st.map (zv b))) := by
  replace h : (match (generalizing := false) st with | (0, x) :: r => zsw (fun t => zP l b D cA cN k n0 Q t L r n M) x lo (offs.toList.map (fun o => ((pc : Int) + o).toNat)) ((pc : Int) + d).toNat | _ => False) := h
  split at h
  · exact zo_table F V hdg ho.1 ho.2.1 ho.2.2.2.2.1 ho.2.2.2.2.2 h
  · exact h.elim
theorem za_call {kd1 kd2 : Nat} (F : zFx b D cA cN k n0 Q p s m args meth c) (V : zVr b D cA cN k n0 L st n M s H locs cells slots ls) (hdg : ∀ kd, kd = kd1 ∨ kd = kd2 → (kd = 0 ∧ decode (zb k) pc = .ok (.invokevirtual i, 3)) ∨ ((kd = 1 ∨ kd = 4) ∧ decode (zb k) pc = .ok (.invokestatic i, 3)) ∨ ((kd = 2 ∨ kd = 3) ∧ decode (zb k) pc = .ok (.invokespecial i, 3))) (h : zwI k n0 (zP l b D cA cN k n0 Q) (zent (zP l b D cA cN)) Q (zinv (zoc k) pc i kd1 kd2) L st n M) : zGo l b D cA cN k Q p e s m args below meth c H locs cells slots (F0 m pc ls (st.map (zv b))) := by
  unfold zinv at h
  split at h
  · rename_i k' na kd hm
    split at h
    · rename_i hkd
      replace h : zcall k n0 (zP l b D cA cN k n0 Q) (zent (zP l b D cA cN)) (pc + 3) k' na kd L st n M := h
      unfold zcall at h
      split at h
      · rename_i As r hp
        obtain ⟨pre, h1, h2, h3⟩ := zpp_ok na [] st As r hp
        rw [List.append_nil] at h1
        subst h1
        subst h2
        exact zo_call F V h3 (zmlk_in hm) (hdg kd hkd) h.1.1 h.1.2.1 h.1.2.2.1 h.1.2.2.2.1 h.1.2.2.2.2.1 h.1.2.2.2.2.2 h.2
      · exact h.elim
    · exact (zno_F h).elim
  · exact (zno_F h).elim
end ZA
