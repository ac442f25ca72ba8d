/-! THE MACHINE KEEPS THE CLEAN RULES: zP says of a frame of the real machine what zG says of the clean one -/
def zrm (k : Nat) : Room := { frames := zfr k, cells := zmc k, slots := zms k, locals := zlo k }
def zwd (k : Nat) : List Cond := .code (zy k) (zb k) (zml k) (zrt0 k) :: zwl
def zKs (D : va_G) (cA cN : ClassId) (U : State) : Prop := va_K D zcls [(cA, .int), (cN, .object "TieOffice$Net")] U ∧ va_AO "TieOffice$Net" U ∧ ∀ w ∈ zNW, va_Nw w U
def zQc (b : Nat) (D : va_G) (cA cN : ClassId) (k : Nat) (Q : zQ) : Array Value → State → Outcome → State → Prop := match zrt k with
  | 1 => va_Ql (fun (r : Int64) (u : Int × zM) => Q r.toInt u.1 u.2) (fun u t => zRel b D cA cN u.1 u.2 t.heap) (fun q => b + 1 ≤ q)
  | 2 => va_Qv (fun (u : Int × zM) => Q 0 u.1 u.2) (fun u t => zRel b D cA cN u.1 u.2 t.heap) (fun q => b + 1 ≤ q)
  | _ => va_Qi (fun (r : Int32) (u : Int × zM) => Q r.toInt u.1 u.2) (fun u t => zRel b D cA cN u.1 u.2 t.heap) (fun q => b + 1 ≤ q)
def zsr (n : Int) (st : List zV) : Prop := ∀ v ∈ st, zr n v ∧ v.1 < 3
theorem zsr_c {n : Int} {v : zV} {r : List zV} : zsr n (v :: r) ↔ (zr n v ∧ v.1 < 3) ∧ zsr n r := ⟨fun h => ⟨h v List.mem_cons_self, fun w hw => h w (List.mem_cons_of_mem _ hw)⟩, fun h w hw => (List.mem_cons.mp hw).elim (fun e => e ▸ h.1) (h.2 w)⟩
/-- what stays through a frame -/
def zFx (b : Nat) (D : va_G) (cA cN : ClassId) (k : Nat) (n0 : Int) (Q : zQ) (p : Program) (s : State) (m : MethodId) (args : Array Value) (meth : Method) (c : Code) : Prop :=
  k < 166 ∧ p.tables.exec = Jvm.exec ∧ c.code = zb k ∧ c.maxLocals = zml k ∧ meth.sig.returnType = zrt0 k ∧ s.vm.findClass (zcnm (zoc k)) = some m.cls ∧ (zini k = true → meth.name = "<init>") ∧ meth.locks = false ∧ (∀ w ∈ zwl, w.before args s = true) ∧ zKs D cA cN s ∧ (s.heap.size : Int) = b + 1 + n0 ∧ 0 ≤ n0 ∧ ∀ r n' M', Q r n' M' → zal k n0 n'
/-- what changes -/
def zVr (b : Nat) (D : va_G) (cA cN : ClassId) (k : Nat) (n0 : Int) (L st : List zV) (n : Int) (M : zM) (s : State) (H : Heap) (locs : List Loc) (cells slots : Nat) (ls : Array Slot) : Prop :=
  n = n0 + cells ∧ zsl n = zsl n0 + slots ∧ cells ≤ zmc k ∧ slots ≤ zms k ∧ zRel b D cA cN n M H ∧ va_S (fun q => b + 1 ≤ q) s.heap H locs ∧ lv_has ls (zml k) (zlv b 0 L) ∧ L.length = zml k ∧ (∀ v ∈ L, zr n v) ∧ zsr n st
abbrev zGo (l : Launch) (b : Nat) (D : va_G) (cA cN : ClassId) (k : Nat) (Q : zQ) (p : Program) (e : Env) (s : State) (m : MethodId) (args : Array Value) (below : List Frame) (meth : Method) (c : Code) (H : Heap) (locs : List Loc) (cells slots : Nat) (g : JFrame) : Prop :=
  W p l e (zrm k) s m args below meth c H locs cells slots (MQ below (zQc b D cA cN k Q) args s (zmc k) (zms k) (fun q => b + 1 ≤ q)) g
def zP (l : Launch) (b : Nat) (D : va_G) (cA cN : ClassId) : zPt := fun k n0 Q pc L st n M =>
  ∀ (p : Program) (e : Env) (s : State) (m : MethodId) (args : Array Value) (below : List Frame) (meth : Method) (c : Code) (H : Heap) (locs : List Loc) (cells slots : Nat) (ls : Array Slot),
    zFx b D cA cN k n0 Q p s m args meth c → zVr b D cA cN k n0 L st n M s H locs cells slots ls → zGo l b D cA cN k Q p e s m args below meth c H locs cells slots (F0 m pc ls (st.map (zv b)))
theorem zlcmp_r (x y : Int) : -2147483648 ≤ zlcmp x y ∧ zlcmp x y < 2147483648 := by
  unfold zlcmp
  split
  · omega
  · split <;> omega
section ZR
variable {l : Launch} {b : Nat} {D : va_G} {cA cN : ClassId} {k : Nat} {n0 : Int} {Q : zQ} {pc nx : Nat} {L L' st st' r : List zV} {n : Int} {M : zM} {p : Program} {e : Env} {s : State} {m : MethodId} {args : Array Value} {below : List Frame} {meth : Method} {c : Code} {H : Heap} {locs : List Loc} {cells slots : Nat} {ls : Array Slot}
theorem zVr_st (V : zVr b D cA cN k n0 L st n M s H locs cells slots ls) (hs : zsr n st') : zVr b D cA cN k n0 L st' n M s H locs cells slots ls := by
  obtain ⟨a1, a2, a3, a4, a5, a6, a7, a8, a9, -⟩ := V
  exact ⟨a1, a2, a3, a4, a5, a6, a7, a8, a9, hs⟩
theorem zVr_sr (V : zVr b D cA cN k n0 L st n M s H locs cells slots ls) : zsr n st := V.2.2.2.2.2.2.2.2.2
theorem zVr_lv (V : zVr b D cA cN k n0 L st n M s H locs cells slots ls) : lv_has ls (zml k) (zlv b 0 L) := V.2.2.2.2.2.2.1
theorem zVr_len (V : zVr b D cA cN k n0 L st n M s H locs cells slots ls) : L.length = zml k := V.2.2.2.2.2.2.2.1
theorem zVr_lr (V : zVr b D cA cN k n0 L st n M s H locs cells slots ls) : ∀ v ∈ L, zr n v := V.2.2.2.2.2.2.2.2.1
theorem zVr_rel (V : zVr b D cA cN k n0 L st n M s H locs cells slots ls) : zRel b D cA cN n M H := V.2.2.2.2.1
theorem zVr_S (V : zVr b D cA cN k n0 L st n M s H locs cells slots ls) : va_S (fun q => b + 1 ≤ q) s.heap H locs := V.2.2.2.2.2.1
/-- the stack alone changes -/
theorem zstk (h : zP l b D cA cN k n0 Q nx L st' n M) (F : zFx b D cA cN k n0 Q p s m args meth c) (V : zVr b D cA cN k n0 L st n M s H locs cells slots ls) (hs : zsr n st')
    (row : zGo l b D cA cN k Q p e s m args below meth c H locs cells slots (F0 m nx ls (st'.map (zv b))) → zGo l b D cA cN k Q p e s m args below meth c H locs cells slots (F0 m pc ls (st.map (zv b)))) : zGo l b D cA cN k Q p e s m args below meth c H locs cells slots (F0 m pc ls (st.map (zv b))) :=
  row (h p e s m args below meth c H locs cells slots ls F (zVr_st V hs))
theorem zo_iconst {v : Int} (F : zFx b D cA cN k n0 Q p s m args meth c) (V : zVr b D cA cN k n0 L (st) n M s H locs cells slots ls) (hdg : decode (zb k) pc = .ok (.iconst v, 1)) (hv : -1 ≤ v ∧ v ≤ 5) (h : zP l b D cA cN k n0 Q (pc + 1) (L) ((0, v) :: st) (n) (M)) : zGo l b D cA cN k Q p e s m args below meth c H locs cells slots (F0 m pc ls ((st).map (zv b))) := by
  exact zstk h F V (zsr_c.mpr ⟨⟨⟨by dsimp only; omega, by dsimp only; omega⟩, by dsimp only; omega⟩, zVr_sr V⟩) (fun g => lv_iconst F.2.1 F.2.2.1 hdg rfl g)
theorem zo_bipush {v : Int} (F : zFx b D cA cN k n0 Q p s m args meth c) (V : zVr b D cA cN k n0 L (st) n M s H locs cells slots ls) (hdg : decode (zb k) pc = .ok (.bipush v, 2)) (hv : -128 ≤ v ∧ v ≤ 127) (h : zP l b D cA cN k n0 Q (pc + 2) (L) ((0, v) :: st) (n) (M)) : zGo l b D cA cN k Q p e s m args below meth c H locs cells slots (F0 m pc ls ((st).map (zv b))) := by
  exact zstk h F V (zsr_c.mpr ⟨⟨⟨by dsimp only; omega, by dsimp only; omega⟩, by dsimp only; omega⟩, zVr_sr V⟩) (fun g => lv_bipush F.2.1 F.2.2.1 hdg (z8_32 hv) g)
theorem zo_sipush {v : Int} (F : zFx b D cA cN k n0 Q p s m args meth c) (V : zVr b D cA cN k n0 L (st) n M s H locs cells slots ls) (hdg : decode (zb k) pc = .ok (.sipush v, 3)) (hv : -32768 ≤ v ∧ v ≤ 32767) (h : zP l b D cA cN k n0 Q (pc + 3) (L) ((0, v) :: st) (n) (M)) : zGo l b D cA cN k Q p e s m args below meth c H locs cells slots (F0 m pc ls ((st).map (zv b))) := by
  exact zstk h F V (zsr_c.mpr ⟨⟨⟨by dsimp only; omega, by dsimp only; omega⟩, by dsimp only; omega⟩, zVr_sr V⟩) (fun g => lv_sipush F.2.1 F.2.2.1 hdg (z16_32 hv) g)
theorem zo_ldc {v : Int} {i : Nat} (F : zFx b D cA cN k n0 Q p s m args meth c) (V : zVr b D cA cN k n0 L (st) n M s H locs cells slots ls) (hdg : decode (zb k) pc = .ok (.ldc i, 2)) (hw : Cond.constant (zcnm (zoc k)) i (Int32.ofInt v) ∈ zwl) (hv : -2147483648 ≤ v ∧ v < 2147483648) (h : zP l b D cA cN k n0 Q (pc + 2) (L) ((0, v) :: st) (n) (M)) : zGo l b D cA cN k Q p e s m args below meth c H locs cells slots (F0 m pc ls ((st).map (zv b))) := by
  exact zstk h F V (zsr_c.mpr ⟨⟨hv, by dsimp only; omega⟩, zVr_sr V⟩) (fun g => lv_ldc F.2.1 F.2.2.1 F.2.2.2.2.2.1 (F.2.2.2.2.2.2.2.2.1 _ hw) hdg g)
theorem zo_ldcw {v : Int} {i : Nat} (F : zFx b D cA cN k n0 Q p s m args meth c) (V : zVr b D cA cN k n0 L (st) n M s H locs cells slots ls) (hdg : decode (zb k) pc = .ok (.ldc_w i, 3)) (hw : Cond.constant (zcnm (zoc k)) i (Int32.ofInt v) ∈ zwl) (hv : -2147483648 ≤ v ∧ v < 2147483648) (h : zP l b D cA cN k n0 Q (pc + 3) (L) ((0, v) :: st) (n) (M)) : zGo l b D cA cN k Q p e s m args below meth c H locs cells slots (F0 m pc ls ((st).map (zv b))) := by
  exact zstk h F V (zsr_c.mpr ⟨⟨hv, by dsimp only; omega⟩, zVr_sr V⟩) (fun g => lv_ldcw F.2.1 F.2.2.1 F.2.2.2.2.2.1 (F.2.2.2.2.2.2.2.2.1 _ hw) hdg g)
theorem zo_ldc2 {v : Int} {i : Nat} (F : zFx b D cA cN k n0 Q p s m args meth c) (V : zVr b D cA cN k n0 L (st) n M s H locs cells slots ls) (hdg : decode (zb k) pc = .ok (.ldc2_w i, 3)) (hw : Cond.constantLong (zcnm (zoc k)) i (Int64.ofInt v) ∈ zwl) (hv : -9223372036854775808 ≤ v ∧ v < 9223372036854775808) (h : zP l b D cA cN k n0 Q (pc + 3) (L) ((1, v) :: st) (n) (M)) : zGo l b D cA cN k Q p e s m args below meth c H locs cells slots (F0 m pc ls ((st).map (zv b))) := by
  exact zstk h F V (zsr_c.mpr ⟨⟨hv, by dsimp only; omega⟩, zVr_sr V⟩) (fun g => lv_ldc2 F.2.1 F.2.2.1 F.2.2.2.2.2.1 (F.2.2.2.2.2.2.2.2.1 _ hw) hdg g)
theorem zo_lconst {v : Fin 2} (F : zFx b D cA cN k n0 Q p s m args meth c) (V : zVr b D cA cN k n0 L (st) n M s H locs cells slots ls) (hdg : decode (zb k) pc = .ok (.lconst v, 1)) (h : zP l b D cA cN k n0 Q (pc + 1) (L) ((1, ((v : Nat) : Int)) :: st) (n) (M)) : zGo l b D cA cN k Q p e s m args below meth c H locs cells slots (F0 m pc ls ((st).map (zv b))) := by
  exact zstk h F V (zsr_c.mpr ⟨⟨⟨by dsimp only; omega, by dsimp only; omega⟩, by dsimp only; omega⟩, zVr_sr V⟩) (fun g => lv_lconst F.2.1 F.2.2.1 hdg rfl g)
theorem zo_iload {i : Nat} {x : Int} (F : zFx b D cA cN k n0 Q p s m args meth c) (V : zVr b D cA cN k n0 L (st) n M s H locs cells slots ls) (hdg : decode (zb k) pc = .ok (.iload i, 2)) (hl : znth L i = some (0, x)) (h : zP l b D cA cN k n0 Q (pc + 2) (L) ((0, x) :: st) (n) (M)) : zGo l b D cA cN k Q p e s m args below meth c H locs cells slots (F0 m pc ls ((st).map (zv b))) := by
  have hx := zVr_lr V _ (znth_mem hl)
  have hq : ls[(i : Nat)]? = some (.val (zv b (0, x))) := (zVr_lv V).2.2 (i, zv b (0, x)) (zlv_mem.mpr ⟨i, (0, x), hl, by dsimp only; omega, by rw [Nat.zero_add]⟩)
  exact zstk h F V (zsr_c.mpr ⟨⟨hx, by dsimp only; omega⟩, zVr_sr V⟩) (fun g => lv_iload F.2.1 F.2.2.1 hdg hq g)
theorem zo_iloadn {i : Fin 4} {x : Int} (F : zFx b D cA cN k n0 Q p s m args meth c) (V : zVr b D cA cN k n0 L (st) n M s H locs cells slots ls) (hdg : decode (zb k) pc = .ok (.iload_n i, 1)) (hl : znth L i = some (0, x)) (h : zP l b D cA cN k n0 Q (pc + 1) (L) ((0, x) :: st) (n) (M)) : zGo l b D cA cN k Q p e s m args below meth c H locs cells slots (F0 m pc ls ((st).map (zv b))) := by
  have hx := zVr_lr V _ (znth_mem hl)
  have hq : ls[(i : Nat)]? = some (.val (zv b (0, x))) := (zVr_lv V).2.2 (i, zv b (0, x)) (zlv_mem.mpr ⟨i, (0, x), hl, by dsimp only; omega, by rw [Nat.zero_add]⟩)
  exact zstk h F V (zsr_c.mpr ⟨⟨hx, by dsimp only; omega⟩, zVr_sr V⟩) (fun g => lv_iload_n F.2.1 F.2.2.1 hdg rfl hq g)
theorem zo_lload {i : Nat} {x : Int} (F : zFx b D cA cN k n0 Q p s m args meth c) (V : zVr b D cA cN k n0 L (st) n M s H locs cells slots ls) (hdg : decode (zb k) pc = .ok (.lload i, 2)) (hl : znth L i = some (1, x)) (h : zP l b D cA cN k n0 Q (pc + 2) (L) ((1, x) :: st) (n) (M)) : zGo l b D cA cN k Q p e s m args below meth c H locs cells slots (F0 m pc ls ((st).map (zv b))) := by
  have hx := zVr_lr V _ (znth_mem hl)
  have hq : ls[(i : Nat)]? = some (.val (zv b (1, x))) := (zVr_lv V).2.2 (i, zv b (1, x)) (zlv_mem.mpr ⟨i, (1, x), hl, by dsimp only; omega, by rw [Nat.zero_add]⟩)
  exact zstk h F V (zsr_c.mpr ⟨⟨hx, by dsimp only; omega⟩, zVr_sr V⟩) (fun g => lv_lload F.2.1 F.2.2.1 hdg hq g)
theorem zo_lloadn {i : Fin 4} {x : Int} (F : zFx b D cA cN k n0 Q p s m args meth c) (V : zVr b D cA cN k n0 L (st) n M s H locs cells slots ls) (hdg : decode (zb k) pc = .ok (.lload_n i, 1)) (hl : znth L i = some (1, x)) (h : zP l b D cA cN k n0 Q (pc + 1) (L) ((1, x) :: st) (n) (M)) : zGo l b D cA cN k Q p e s m args below meth c H locs cells slots (F0 m pc ls ((st).map (zv b))) := by
  have hx := zVr_lr V _ (znth_mem hl)
  have hq : ls[(i : Nat)]? = some (.val (zv b (1, x))) := (zVr_lv V).2.2 (i, zv b (1, x)) (zlv_mem.mpr ⟨i, (1, x), hl, by dsimp only; omega, by rw [Nat.zero_add]⟩)
  exact zstk h F V (zsr_c.mpr ⟨⟨hx, by dsimp only; omega⟩, zVr_sr V⟩) (fun g => lv_lload_n F.2.1 F.2.2.1 hdg rfl hq g)
theorem zo_aload {i : Nat} {x : Int} (F : zFx b D cA cN k n0 Q p s m args meth c) (V : zVr b D cA cN k n0 L (st) n M s H locs cells slots ls) (hdg : decode (zb k) pc = .ok (.aload i, 2)) (hl : znth L i = some (2, x)) (h0 : 0 < x) (h : zP l b D cA cN k n0 Q (pc + 2) (L) ((2, x) :: st) (n) (M)) : zGo l b D cA cN k Q p e s m args below meth c H locs cells slots (F0 m pc ls ((st).map (zv b))) := by
  have hx := zVr_lr V _ (znth_mem hl)
  have e1 : zv b (2, x) = .ref (b + x.toNat) := by show (if x ≤ 0 then Value.null else Value.ref (b + x.toNat)) = _; rw [if_neg (by omega)]
  have hq : ls[(i : Nat)]? = some (.val (.ref (b + x.toNat))) := by rw [← e1]; exact (zVr_lv V).2.2 (i, zv b (2, x)) (zlv_mem.mpr ⟨i, (2, x), hl, by dsimp only; omega, by rw [Nat.zero_add]⟩)
  exact zstk h F V (zsr_c.mpr ⟨⟨hx, by dsimp only; omega⟩, zVr_sr V⟩) (fun g => lv_aload F.2.1 F.2.2.1 hdg hq (by rw [← e1]; exact g))
theorem zo_aloadn {i : Fin 4} {x : Int} (F : zFx b D cA cN k n0 Q p s m args meth c) (V : zVr b D cA cN k n0 L (st) n M s H locs cells slots ls) (hdg : decode (zb k) pc = .ok (.aload_n i, 1)) (hl : znth L i = some (2, x)) (h0 : 0 < x) (h : zP l b D cA cN k n0 Q (pc + 1) (L) ((2, x) :: st) (n) (M)) : zGo l b D cA cN k Q p e s m args below meth c H locs cells slots (F0 m pc ls ((st).map (zv b))) := by
  have hx := zVr_lr V _ (znth_mem hl)
  have e1 : zv b (2, x) = .ref (b + x.toNat) := by show (if x ≤ 0 then Value.null else Value.ref (b + x.toNat)) = _; rw [if_neg (by omega)]
  have hq : ls[(i : Nat)]? = some (.val (.ref (b + x.toNat))) := by rw [← e1]; exact (zVr_lv V).2.2 (i, zv b (2, x)) (zlv_mem.mpr ⟨i, (2, x), hl, by dsimp only; omega, by rw [Nat.zero_add]⟩)
  exact zstk h F V (zsr_c.mpr ⟨⟨hx, by dsimp only; omega⟩, zVr_sr V⟩) (fun g => lv_aload_n F.2.1 F.2.2.1 hdg rfl hq (by rw [← e1]; exact g))
theorem zVr_ls {v : zV} {ls' : Array Slot} (V : zVr b D cA cN k n0 L (v :: r) n M s H locs cells slots ls) (hl : lv_has ls' (zml k) (zlv b 0 L')) (hn : L'.length = L.length) (hr : ∀ w ∈ L', zr n w) : zVr b D cA cN k n0 L' r n M s H locs cells slots ls' := by
  obtain ⟨a1, a2, a3, a4, a5, a6, a7, a8, a9, a10⟩ := V
  exact ⟨a1, a2, a3, a4, a5, a6, hl, hn.trans a8, hr, (zsr_c.mp a10).2⟩
theorem zo_istore {i : Nat} {x : Int} {w : zV} (F : zFx b D cA cN k n0 Q p s m args meth c) (V : zVr b D cA cN k n0 L ((0, x) :: r) n M s H locs cells slots ls) (hdg : decode (zb k) pc = .ok (.istore i, 2)) (hl : znth L i = some w) (h : zP l b D cA cN k n0 Q (pc + 2) (zst1 L i (0, x)) (r) (n) (M)) : zGo l b D cA cN k Q p e s m args below meth c H locs cells slots (F0 m pc ls (((0, x) :: r).map (zv b))) := by
  have hi : (i : Nat) < zml k := by rw [← zVr_len V]; exact znth_lt hl
  refine lv_istore F.2.1 F.2.2.1 hdg (zVr_lv V) hi rfl (fun ls2 h2 => ?_)
  exact h p e s m args below meth c H locs cells slots ls2 F (zVr_ls V (zst1_has h2) (zst1_len _ _ _) (zst1_r (zVr_lr V) (zsr_c.mp (zVr_sr V)).1.1))
theorem zo_lstore {i : Nat} {x : Int} {w : zV} (F : zFx b D cA cN k n0 Q p s m args meth c) (V : zVr b D cA cN k n0 L ((1, x) :: r) n M s H locs cells slots ls) (hdg : decode (zb k) pc = .ok (.lstore i, 2)) (hl : znth L ((i : Nat) + 1) = some w) (h : zP l b D cA cN k n0 Q (pc + 2) (zst2 L i (1, x)) (r) (n) (M)) : zGo l b D cA cN k Q p e s m args below meth c H locs cells slots (F0 m pc ls (((1, x) :: r).map (zv b))) := by
  have hi : (i : Nat) + 1 < zml k := by rw [← zVr_len V]; exact znth_lt hl
  refine lv_lstore F.2.1 F.2.2.1 hdg (zVr_lv V) hi rfl (fun ls2 h2 => ?_)
  exact h p e s m args below meth c H locs cells slots ls2 F (zVr_ls V (zst2_has h2) (zst2_len _ _ _) (zst2_r (zVr_lr V) (zsr_c.mp (zVr_sr V)).1.1))
theorem zo_astore {i : Nat} {x : Int} {w : zV} (F : zFx b D cA cN k n0 Q p s m args meth c) (V : zVr b D cA cN k n0 L ((2, x) :: r) n M s H locs cells slots ls) (hdg : decode (zb k) pc = .ok (.astore i, 2)) (hl : znth L i = some w) (h0 : 0 < x) (h : zP l b D cA cN k n0 Q (pc + 2) (zst1 L i (2, x)) (r) (n) (M)) : zGo l b D cA cN k Q p e s m args below meth c H locs cells slots (F0 m pc ls (((2, x) :: r).map (zv b))) := by
  have hi : (i : Nat) < zml k := by rw [← zVr_len V]; exact znth_lt hl
  have e1 : zv b (2, x) = .ref (b + x.toNat) := by show (if x ≤ 0 then Value.null else Value.ref (b + x.toNat)) = _; rw [if_neg (by omega)]
  rw [List.map_cons, e1]
  refine lv_astore F.2.1 F.2.2.1 hdg (zVr_lv V) hi rfl (fun ls2 h2 => ?_)
  rw [← e1] at h2
  exact h p e s m args below meth c H locs cells slots ls2 F (zVr_ls V (zst1_has h2) (zst1_len _ _ _) (zst1_r (zVr_lr V) (zsr_c.mp (zVr_sr V)).1.1))
theorem zo_istoren {i : Fin 4} {x : Int} {w : zV} (F : zFx b D cA cN k n0 Q p s m args meth c) (V : zVr b D cA cN k n0 L ((0, x) :: r) n M s H locs cells slots ls) (hdg : decode (zb k) pc = .ok (.istore_n i, 1)) (hl : znth L i = some w) (h : zP l b D cA cN k n0 Q (pc + 1) (zst1 L i (0, x)) (r) (n) (M)) : zGo l b D cA cN k Q p e s m args below meth c H locs cells slots (F0 m pc ls (((0, x) :: r).map (zv b))) := by
  have hi : (i : Nat) < zml k := by rw [← zVr_len V]; exact znth_lt hl
  refine lv_istore_n F.2.1 F.2.2.1 hdg rfl (zVr_lv V) hi rfl (fun ls2 h2 => ?_)
  exact h p e s m args below meth c H locs cells slots ls2 F (zVr_ls V (zst1_has h2) (zst1_len _ _ _) (zst1_r (zVr_lr V) (zsr_c.mp (zVr_sr V)).1.1))
theorem zo_lstoren {i : Fin 4} {x : Int} {w : zV} (F : zFx b D cA cN k n0 Q p s m args meth c) (V : zVr b D cA cN k n0 L ((1, x) :: r) n M s H locs cells slots ls) (hdg : decode (zb k) pc = .ok (.lstore_n i, 1)) (hl : znth L ((i : Nat) + 1) = some w) (h : zP l b D cA cN k n0 Q (pc + 1) (zst2 L i (1, x)) (r) (n) (M)) : zGo l b D cA cN k Q p e s m args below meth c H locs cells slots (F0 m pc ls (((1, x) :: r).map (zv b))) := by
  have hi : (i : Nat) + 1 < zml k := by rw [← zVr_len V]; exact znth_lt hl
  refine lv_lstore_n F.2.1 F.2.2.1 hdg rfl (zVr_lv V) hi rfl (fun ls2 h2 => ?_)
  exact h p e s m args below meth c H locs cells slots ls2 F (zVr_ls V (zst2_has h2) (zst2_len _ _ _) (zst2_r (zVr_lr V) (zsr_c.mp (zVr_sr V)).1.1))
theorem zo_astoren {i : Fin 4} {x : Int} {w : zV} (F : zFx b D cA cN k n0 Q p s m args meth c) (V : zVr b D cA cN k n0 L ((2, x) :: r) n M s H locs cells slots ls) (hdg : decode (zb k) pc = .ok (.astore_n i, 1)) (hl : znth L i = some w) (h0 : 0 < x) (h : zP l b D cA cN k n0 Q (pc + 1) (zst1 L i (2, x)) (r) (n) (M)) : zGo l b D cA cN k Q p e s m args below meth c H locs cells slots (F0 m pc ls (((2, x) :: r).map (zv b))) := by
  have hi : (i : Nat) < zml k := by rw [← zVr_len V]; exact znth_lt hl
  have e1 : zv b (2, x) = .ref (b + x.toNat) := by show (if x ≤ 0 then Value.null else Value.ref (b + x.toNat)) = _; rw [if_neg (by omega)]
  rw [List.map_cons, e1]
  refine lv_astore_n F.2.1 F.2.2.1 hdg rfl (zVr_lv V) hi rfl (fun ls2 h2 => ?_)
  rw [← e1] at h2
  exact h p e s m args below meth c H locs cells slots ls2 F (zVr_ls V (zst1_has h2) (zst1_len _ _ _) (zst1_r (zVr_lr V) (zsr_c.mp (zVr_sr V)).1.1))
theorem zo_iinc {i : Nat} {v x : Int} (F : zFx b D cA cN k n0 Q p s m args meth c) (V : zVr b D cA cN k n0 L (st) n M s H locs cells slots ls) (hdg : decode (zb k) pc = .ok (.iinc i v, 3)) (hl : znth L i = some (0, x)) (h : zP l b D cA cN k n0 Q (pc + 3) (zst1 L i (0, zw (x + v))) (st) (n) (M)) : zGo l b D cA cN k Q p e s m args below meth c H locs cells slots (F0 m pc ls ((st).map (zv b))) := by
  have hi : i < zml k := by rw [← zVr_len V]; exact znth_lt hl
  have hm : (i, zv b (0, x)) ∈ zlv b 0 L := zlv_mem.mpr ⟨i, (0, x), hl, by dsimp only; omega, by rw [Nat.zero_add]⟩
  obtain ⟨j, hj⟩ := List.getElem?_of_mem hm
  refine lv_iinc (v := Int32.ofInt (zw (x + v))) F.2.1 F.2.2.1 hdg (zVr_lv V) hj (z32_add x v).symm hi rfl (fun ls2 h2 => ?_)
  refine h p e s m args below meth c H locs cells slots ls2 F ?_
  obtain ⟨a1, a2, a3, a4, a5, a6, a7, a8, a9, a10⟩ := V
  exact ⟨a1, a2, a3, a4, a5, a6, zst1_has (v := (0, zw (x + v))) h2, (zst1_len _ _ _).trans a8, zst1_r a9 (zw_r _), a10⟩
theorem zo_iadd {x y : Int} (F : zFx b D cA cN k n0 Q p s m args meth c) (V : zVr b D cA cN k n0 L ((0, y) :: (0, x) :: r) n M s H locs cells slots ls) (hdg : decode (zb k) pc = .ok (.iadd, 1)) (h : zP l b D cA cN k n0 Q (pc + 1) (L) ((0, zw (x + y)) :: r) (n) (M)) : zGo l b D cA cN k Q p e s m args below meth c H locs cells slots (F0 m pc ls (((0, y) :: (0, x) :: r).map (zv b))) := by
  exact zstk h F V (zsr_c.mpr ⟨⟨zw_r _, by dsimp only; omega⟩, (zsr_c.mp (zsr_c.mp (zVr_sr V)).2).2⟩) (fun g => lv_iadd F.2.1 F.2.2.1 hdg (by rw [← z32_add]; exact g))
theorem zo_isub {x y : Int} (F : zFx b D cA cN k n0 Q p s m args meth c) (V : zVr b D cA cN k n0 L ((0, y) :: (0, x) :: r) n M s H locs cells slots ls) (hdg : decode (zb k) pc = .ok (.isub, 1)) (h : zP l b D cA cN k n0 Q (pc + 1) (L) ((0, zw (x - y)) :: r) (n) (M)) : zGo l b D cA cN k Q p e s m args below meth c H locs cells slots (F0 m pc ls (((0, y) :: (0, x) :: r).map (zv b))) := by
  exact zstk h F V (zsr_c.mpr ⟨⟨zw_r _, by dsimp only; omega⟩, (zsr_c.mp (zsr_c.mp (zVr_sr V)).2).2⟩) (fun g => lv_isub F.2.1 F.2.2.1 hdg (by rw [← z32_sub]; exact g))
theorem zo_imul {x y : Int} (F : zFx b D cA cN k n0 Q p s m args meth c) (V : zVr b D cA cN k n0 L ((0, y) :: (0, x) :: r) n M s H locs cells slots ls) (hdg : decode (zb k) pc = .ok (.imul, 1)) (h : zP l b D cA cN k n0 Q (pc + 1) (L) ((0, zw (x * y)) :: r) (n) (M)) : zGo l b D cA cN k Q p e s m args below meth c H locs cells slots (F0 m pc ls (((0, y) :: (0, x) :: r).map (zv b))) := by
  exact zstk h F V (zsr_c.mpr ⟨⟨zw_r _, by dsimp only; omega⟩, (zsr_c.mp (zsr_c.mp (zVr_sr V)).2).2⟩) (fun g => lv_imul F.2.1 F.2.2.1 hdg (by rw [← z32_mul]; exact g))
theorem zo_iand {x y : Int} (F : zFx b D cA cN k n0 Q p s m args meth c) (V : zVr b D cA cN k n0 L ((0, y) :: (0, x) :: r) n M s H locs cells slots ls) (hdg : decode (zb k) pc = .ok (.iand, 1)) (h : zP l b D cA cN k n0 Q (pc + 1) (L) ((0, zand x y) :: r) (n) (M)) : zGo l b D cA cN k Q p e s m args below meth c H locs cells slots (F0 m pc ls (((0, y) :: (0, x) :: r).map (zv b))) := by
  exact zstk h F V (zsr_c.mpr ⟨⟨z32_r _, by dsimp only; omega⟩, (zsr_c.mp (zsr_c.mp (zVr_sr V)).2).2⟩) (fun g => lv_iand F.2.1 F.2.2.1 hdg (by rw [← Int32.ofInt_toInt (Int32.ofInt x &&& Int32.ofInt y)]; exact g))
theorem zo_ior {x y : Int} (F : zFx b D cA cN k n0 Q p s m args meth c) (V : zVr b D cA cN k n0 L ((0, y) :: (0, x) :: r) n M s H locs cells slots ls) (hdg : decode (zb k) pc = .ok (.ior, 1)) (h : zP l b D cA cN k n0 Q (pc + 1) (L) ((0, zor x y) :: r) (n) (M)) : zGo l b D cA cN k Q p e s m args below meth c H locs cells slots (F0 m pc ls (((0, y) :: (0, x) :: r).map (zv b))) := by
  exact zstk h F V (zsr_c.mpr ⟨⟨z32_r _, by dsimp only; omega⟩, (zsr_c.mp (zsr_c.mp (zVr_sr V)).2).2⟩) (fun g => lv_ior F.2.1 F.2.2.1 hdg (by rw [← Int32.ofInt_toInt (Int32.ofInt x ||| Int32.ofInt y)]; exact g))
theorem zo_ixor {x y : Int} (F : zFx b D cA cN k n0 Q p s m args meth c) (V : zVr b D cA cN k n0 L ((0, y) :: (0, x) :: r) n M s H locs cells slots ls) (hdg : decode (zb k) pc = .ok (.ixor, 1)) (h : zP l b D cA cN k n0 Q (pc + 1) (L) ((0, zxor x y) :: r) (n) (M)) : zGo l b D cA cN k Q p e s m args below meth c H locs cells slots (F0 m pc ls (((0, y) :: (0, x) :: r).map (zv b))) := by
  exact zstk h F V (zsr_c.mpr ⟨⟨z32_r _, by dsimp only; omega⟩, (zsr_c.mp (zsr_c.mp (zVr_sr V)).2).2⟩) (fun g => lv_ixor F.2.1 F.2.2.1 hdg (by rw [← Int32.ofInt_toInt (Int32.ofInt x ^^^ Int32.ofInt y)]; exact g))
theorem zo_ishl {x y : Int} (F : zFx b D cA cN k n0 Q p s m args meth c) (V : zVr b D cA cN k n0 L ((0, y) :: (0, x) :: r) n M s H locs cells slots ls) (hdg : decode (zb k) pc = .ok (.ishl, 1)) (h : zP l b D cA cN k n0 Q (pc + 1) (L) ((0, zshl x y) :: r) (n) (M)) : zGo l b D cA cN k Q p e s m args below meth c H locs cells slots (F0 m pc ls (((0, y) :: (0, x) :: r).map (zv b))) := by
  exact zstk h F V (zsr_c.mpr ⟨⟨z32_r _, by dsimp only; omega⟩, (zsr_c.mp (zsr_c.mp (zVr_sr V)).2).2⟩) (fun g => lv_ishl F.2.1 F.2.2.1 hdg (by rw [← Int32.ofInt_toInt (Int32.ofInt x <<< (Int32.ofInt y &&& 31))]; exact g))
theorem zo_ishr {x y : Int} (F : zFx b D cA cN k n0 Q p s m args meth c) (V : zVr b D cA cN k n0 L ((0, y) :: (0, x) :: r) n M s H locs cells slots ls) (hdg : decode (zb k) pc = .ok (.ishr, 1)) (h : zP l b D cA cN k n0 Q (pc + 1) (L) ((0, zshr x y) :: r) (n) (M)) : zGo l b D cA cN k Q p e s m args below meth c H locs cells slots (F0 m pc ls (((0, y) :: (0, x) :: r).map (zv b))) := by
  exact zstk h F V (zsr_c.mpr ⟨⟨z32_r _, by dsimp only; omega⟩, (zsr_c.mp (zsr_c.mp (zVr_sr V)).2).2⟩) (fun g => lv_ishr F.2.1 F.2.2.1 hdg (by rw [← Int32.ofInt_toInt (Int32.ofInt x >>> (Int32.ofInt y &&& 31))]; exact g))
theorem zo_iushr {x y : Int} (F : zFx b D cA cN k n0 Q p s m args meth c) (V : zVr b D cA cN k n0 L ((0, y) :: (0, x) :: r) n M s H locs cells slots ls) (hdg : decode (zb k) pc = .ok (.iushr, 1)) (h : zP l b D cA cN k n0 Q (pc + 1) (L) ((0, zushr x y) :: r) (n) (M)) : zGo l b D cA cN k Q p e s m args below meth c H locs cells slots (F0 m pc ls (((0, y) :: (0, x) :: r).map (zv b))) := by
  exact zstk h F V (zsr_c.mpr ⟨⟨z32_r _, by dsimp only; omega⟩, (zsr_c.mp (zsr_c.mp (zVr_sr V)).2).2⟩) (fun g => lv_iushr F.2.1 F.2.2.1 hdg (Int32.ofInt_toInt _).symm g)
theorem zo_ladd {x y : Int} (F : zFx b D cA cN k n0 Q p s m args meth c) (V : zVr b D cA cN k n0 L ((1, y) :: (1, x) :: r) n M s H locs cells slots ls) (hdg : decode (zb k) pc = .ok (.ladd, 1)) (h : zP l b D cA cN k n0 Q (pc + 1) (L) ((1, zW (x + y)) :: r) (n) (M)) : zGo l b D cA cN k Q p e s m args below meth c H locs cells slots (F0 m pc ls (((1, y) :: (1, x) :: r).map (zv b))) := by
  exact zstk h F V (zsr_c.mpr ⟨⟨zW_r _, by dsimp only; omega⟩, (zsr_c.mp (zsr_c.mp (zVr_sr V)).2).2⟩) (fun g => lv_ladd F.2.1 F.2.2.1 hdg (by rw [← z64_add]; exact g))
theorem zo_lsub {x y : Int} (F : zFx b D cA cN k n0 Q p s m args meth c) (V : zVr b D cA cN k n0 L ((1, y) :: (1, x) :: r) n M s H locs cells slots ls) (hdg : decode (zb k) pc = .ok (.lsub, 1)) (h : zP l b D cA cN k n0 Q (pc + 1) (L) ((1, zW (x - y)) :: r) (n) (M)) : zGo l b D cA cN k Q p e s m args below meth c H locs cells slots (F0 m pc ls (((1, y) :: (1, x) :: r).map (zv b))) := by
  exact zstk h F V (zsr_c.mpr ⟨⟨zW_r _, by dsimp only; omega⟩, (zsr_c.mp (zsr_c.mp (zVr_sr V)).2).2⟩) (fun g => lv_lsub F.2.1 F.2.2.1 hdg (by rw [← z64_sub]; exact g))
theorem zo_lmul {x y : Int} (F : zFx b D cA cN k n0 Q p s m args meth c) (V : zVr b D cA cN k n0 L ((1, y) :: (1, x) :: r) n M s H locs cells slots ls) (hdg : decode (zb k) pc = .ok (.lmul, 1)) (h : zP l b D cA cN k n0 Q (pc + 1) (L) ((1, zW (x * y)) :: r) (n) (M)) : zGo l b D cA cN k Q p e s m args below meth c H locs cells slots (F0 m pc ls (((1, y) :: (1, x) :: r).map (zv b))) := by
  exact zstk h F V (zsr_c.mpr ⟨⟨zW_r _, by dsimp only; omega⟩, (zsr_c.mp (zsr_c.mp (zVr_sr V)).2).2⟩) (fun g => lv_lmul F.2.1 F.2.2.1 hdg (by rw [← z64_mul]; exact g))
theorem zo_ineg {x : Int} (F : zFx b D cA cN k n0 Q p s m args meth c) (V : zVr b D cA cN k n0 L ((0, x) :: r) n M s H locs cells slots ls) (hdg : decode (zb k) pc = .ok (.ineg, 1)) (h : zP l b D cA cN k n0 Q (pc + 1) (L) ((0, zw (-x)) :: r) (n) (M)) : zGo l b D cA cN k Q p e s m args below meth c H locs cells slots (F0 m pc ls (((0, x) :: r).map (zv b))) := by
  exact zstk h F V (zsr_c.mpr ⟨⟨zw_r _, by dsimp only; omega⟩, (zsr_c.mp (zVr_sr V)).2⟩) (fun g => lv_ineg F.2.1 F.2.2.1 hdg (by rw [← z32_neg]; exact g))
theorem zo_i2l {x : Int} (F : zFx b D cA cN k n0 Q p s m args meth c) (V : zVr b D cA cN k n0 L ((0, x) :: r) n M s H locs cells slots ls) (hdg : decode (zb k) pc = .ok (.i2l, 1)) (h : zP l b D cA cN k n0 Q (pc + 1) (L) ((1, x) :: r) (n) (M)) : zGo l b D cA cN k Q p e s m args below meth c H locs cells slots (F0 m pc ls (((0, x) :: r).map (zv b))) := by
  have hx : -2147483648 ≤ x ∧ x < 2147483648 := (zsr_c.mp (zVr_sr V)).1.1
  exact zstk h F V (zsr_c.mpr ⟨⟨⟨by dsimp only; omega, by dsimp only; omega⟩, by dsimp only; omega⟩, (zsr_c.mp (zVr_sr V)).2⟩) (fun g => lv_i2l F.2.1 F.2.2.1 hdg (z32_64 hx) g)
theorem zo_lcmp {x y : Int} (F : zFx b D cA cN k n0 Q p s m args meth c) (V : zVr b D cA cN k n0 L ((1, y) :: (1, x) :: r) n M s H locs cells slots ls) (hdg : decode (zb k) pc = .ok (.lcmp, 1)) (h : zP l b D cA cN k n0 Q (pc + 1) (L) ((0, zlcmp x y) :: r) (n) (M)) : zGo l b D cA cN k Q p e s m args below meth c H locs cells slots (F0 m pc ls (((1, y) :: (1, x) :: r).map (zv b))) := by
  have hy := (zsr_c.mp (zVr_sr V)).1.1
  have hx := (zsr_c.mp (zsr_c.mp (zVr_sr V)).2).1.1
  exact zstk h F V (zsr_c.mpr ⟨⟨zlcmp_r x y, by dsimp only; omega⟩, (zsr_c.mp (zsr_c.mp (zVr_sr V)).2).2⟩) (fun g => W.lcmp F.2.1 F.2.2.1 hdg (by rw [z64_cmp hx hy]; exact g))
theorem zo_dup {v : zV} (F : zFx b D cA cN k n0 Q p s m args meth c) (V : zVr b D cA cN k n0 L (v :: r) n M s H locs cells slots ls) (hdg : decode (zb k) pc = .ok (.dup, 1)) (hv : v.1 ≠ 1) (h : zP l b D cA cN k n0 Q (pc + 1) (L) (v :: v :: r) (n) (M)) : zGo l b D cA cN k Q p e s m args below meth c H locs cells slots (F0 m pc ls ((v :: r).map (zv b))) := by
  have h1 := zVr_sr V
  have hc : (zv b v).category = 1 := by rcases lv_cat (zv b v) with q | q; exact q; exact absurd ((zv_cat b v).mp q) hv
  exact zstk h F V (zsr_c.mpr ⟨(zsr_c.mp h1).1, h1⟩) (fun g => lv_dup F.2.1 F.2.2.1 hdg hc g)
theorem zo_dup2 {v w : zV} (F : zFx b D cA cN k n0 Q p s m args meth c) (V : zVr b D cA cN k n0 L (v :: w :: r) n M s H locs cells slots ls) (hdg : decode (zb k) pc = .ok (.dup2, 1)) (hv : v.1 ≠ 1) (hw : w.1 ≠ 1) (h : zP l b D cA cN k n0 Q (pc + 1) (L) (v :: w :: v :: w :: r) (n) (M)) : zGo l b D cA cN k Q p e s m args below meth c H locs cells slots (F0 m pc ls ((v :: w :: r).map (zv b))) := by
  have h1 := zVr_sr V
  have hc : (zv b v).category = 1 := by rcases lv_cat (zv b v) with q | q; exact q; exact absurd ((zv_cat b v).mp q) hv
  have hd : (zv b w).category = 1 := by rcases lv_cat (zv b w) with q | q; exact q; exact absurd ((zv_cat b w).mp q) hw
  exact zstk h F V (zsr_c.mpr ⟨(zsr_c.mp h1).1, zsr_c.mpr ⟨(zsr_c.mp (zsr_c.mp h1).2).1, h1⟩⟩) (fun g => lv_dup2_11 F.2.1 F.2.2.1 hdg hc hd g)
theorem zo_pop {v : zV} (F : zFx b D cA cN k n0 Q p s m args meth c) (V : zVr b D cA cN k n0 L (v :: r) n M s H locs cells slots ls) (hdg : decode (zb k) pc = .ok (.pop, 1)) (hv : v.1 ≠ 1) (h : zP l b D cA cN k n0 Q (pc + 1) (L) (r) (n) (M)) : zGo l b D cA cN k Q p e s m args below meth c H locs cells slots (F0 m pc ls ((v :: r).map (zv b))) := by
  have hc : (zv b v).category = 1 := by rcases lv_cat (zv b v) with q | q; exact q; exact absurd ((zv_cat b v).mp q) hv
  exact zstk h F V (zsr_c.mp (zVr_sr V)).2 (fun g => lv_pop F.2.1 F.2.2.1 hdg hc g)
theorem zo_icmp_eq {x y off : Int} {tgt : Nat} (F : zFx b D cA cN k n0 Q p s m args meth c) (V : zVr b D cA cN k n0 L ((0, y) :: (0, x) :: r) n M s H locs cells slots ls) (hdg : decode (zb k) pc = .ok (.if_icmp .eq off, 3)) (ht : (pc : Int) + off = (tgt : Int)) (ht1 : x = y → zP l b D cA cN k n0 Q (tgt) L (r) n M) (hf1 : ¬ x = y → zP l b D cA cN k n0 Q (pc + 3) L (r) n M) : zGo l b D cA cN k Q p e s m args below meth c H locs cells slots (F0 m pc ls (((0, y) :: (0, x) :: r).map (zv b))) := by
  have hy : -2147483648 ≤ y ∧ y < 2147483648 := (zsr_c.mp (zVr_sr V)).1.1
  have hx : -2147483648 ≤ x ∧ x < 2147483648 := (zsr_c.mp (zsr_c.mp (zVr_sr V)).2).1.1
  have hs := (zsr_c.mp (zsr_c.mp (zVr_sr V)).2).2
  have e1 := z32_eq hx hy
  have e2 := z32_lt hx hy
  have e3 := z32_le hy hx
  have e4 := z32_lt hy hx
  have e5 := z32_le hx hy
  refine lv_icmp_eq F.2.1 F.2.2.1 hdg ht (fun q => ?_) (fun q => ?_)
  · exact ht1 (by revert q; first | (intro q; first | exact e1.mp q | exact e2.mp q | exact e4.mp q | exact fun z => q (e1.mpr z) | exact (by have := e3.mp q; omega) | exact (by have := e5.mp q; omega))) p e s m args below meth c H locs cells slots ls F (zVr_st V hs)
  · exact hf1 (by revert q; first | (intro q; first | exact e1.mp q | exact fun z => q (e1.mpr z) | exact fun z => q (e2.mpr z) | exact fun z => q (e4.mpr z) | exact (Decidable.byContradiction fun z => q (fun w => z (e1.mp w))) | exact (Decidable.byContradiction fun z => q (e3.mpr (by omega))) | exact (Decidable.byContradiction fun z => q (e5.mpr (by omega))))) p e s m args below meth c H locs cells slots ls F (zVr_st V hs)
theorem zo_if_eq {x off : Int} {tgt : Nat} (F : zFx b D cA cN k n0 Q p s m args meth c) (V : zVr b D cA cN k n0 L ((0, x) :: r) n M s H locs cells slots ls) (hdg : decode (zb k) pc = .ok (.ifCond .eq off, 3)) (ht : (pc : Int) + off = (tgt : Int)) (ht1 : x = 0 → zP l b D cA cN k n0 Q (tgt) L (r) n M) (hf1 : ¬ x = 0 → zP l b D cA cN k n0 Q (pc + 3) L (r) n M) : zGo l b D cA cN k Q p e s m args below meth c H locs cells slots (F0 m pc ls (((0, x) :: r).map (zv b))) := by
  have hx : -2147483648 ≤ x ∧ x < 2147483648 := (zsr_c.mp (zVr_sr V)).1.1
  have hs := (zsr_c.mp (zVr_sr V)).2
  have h00 : (-2147483648 : Int) ≤ 0 ∧ (0 : Int) < 2147483648 := by decide
  have e1 := z32_eq hx h00
  have e2 := z32_lt hx h00
  have e3 := z32_le h00 hx
  have e4 := z32_lt h00 hx
  have e5 := z32_le hx h00
  refine lv_if_eq F.2.1 F.2.2.1 hdg ht (fun q => ?_) (fun q => ?_)
  · exact ht1 (by revert q; first | (intro q; first | exact e1.mp q | exact e2.mp q | exact e4.mp q | exact fun z => q (e1.mpr z) | exact (by have := e3.mp q; omega) | exact (by have := e5.mp q; omega))) p e s m args below meth c H locs cells slots ls F (zVr_st V hs)
  · exact hf1 (by revert q; first | (intro q; first | exact e1.mp q | exact fun z => q (e1.mpr z) | exact fun z => q (e2.mpr z) | exact fun z => q (e4.mpr z) | exact (Decidable.byContradiction fun z => q (fun w => z (e1.mp w))) | exact (Decidable.byContradiction fun z => q (e3.mpr (by omega))) | exact (Decidable.byContradiction fun z => q (e5.mpr (by omega))))) p e s m args below meth c H locs cells slots ls F (zVr_st V hs)
theorem zo_icmp_ne {x y off : Int} {tgt : Nat} (F : zFx b D cA cN k n0 Q p s m args meth c) (V : zVr b D cA cN k n0 L ((0, y) :: (0, x) :: r) n M s H locs cells slots ls) (hdg : decode (zb k) pc = .ok (.if_icmp .ne off, 3)) (ht : (pc : Int) + off = (tgt : Int)) (ht1 : ¬ x = y → zP l b D cA cN k n0 Q (tgt) L (r) n M) (hf1 : x = y → zP l b D cA cN k n0 Q (pc + 3) L (r) n M) : zGo l b D cA cN k Q p e s m args below meth c H locs cells slots (F0 m pc ls (((0, y) :: (0, x) :: r).map (zv b))) := by
  have hy : -2147483648 ≤ y ∧ y < 2147483648 := (zsr_c.mp (zVr_sr V)).1.1
  have hx : -2147483648 ≤ x ∧ x < 2147483648 := (zsr_c.mp (zsr_c.mp (zVr_sr V)).2).1.1
  have hs := (zsr_c.mp (zsr_c.mp (zVr_sr V)).2).2
  have e1 := z32_eq hx hy
  have e2 := z32_lt hx hy
  have e3 := z32_le hy hx
  have e4 := z32_lt hy hx
  have e5 := z32_le hx hy
  refine lv_icmp_ne F.2.1 F.2.2.1 hdg ht (fun q => ?_) (fun q => ?_)
  · exact ht1 (by revert q; first | (intro q; first | exact e1.mp q | exact e2.mp q | exact e4.mp q | exact fun z => q (e1.mpr z) | exact (by have := e3.mp q; omega) | exact (by have := e5.mp q; omega))) p e s m args below meth c H locs cells slots ls F (zVr_st V hs)
  · exact hf1 (by revert q; first | (intro q; first | exact e1.mp q | exact fun z => q (e1.mpr z) | exact fun z => q (e2.mpr z) | exact fun z => q (e4.mpr z) | exact (Decidable.byContradiction fun z => q (fun w => z (e1.mp w))) | exact (Decidable.byContradiction fun z => q (e3.mpr (by omega))) | exact (Decidable.byContradiction fun z => q (e5.mpr (by omega))))) p e s m args below meth c H locs cells slots ls F (zVr_st V hs)
theorem zo_if_ne {x off : Int} {tgt : Nat} (F : zFx b D cA cN k n0 Q p s m args meth c) (V : zVr b D cA cN k n0 L ((0, x) :: r) n M s H locs cells slots ls) (hdg : decode (zb k) pc = .ok (.ifCond .ne off, 3)) (ht : (pc : Int) + off = (tgt : Int)) (ht1 : ¬ x = 0 → zP l b D cA cN k n0 Q (tgt) L (r) n M) (hf1 : x = 0 → zP l b D cA cN k n0 Q (pc + 3) L (r) n M) : zGo l b D cA cN k Q p e s m args below meth c H locs cells slots (F0 m pc ls (((0, x) :: r).map (zv b))) := by
  have hx : -2147483648 ≤ x ∧ x < 2147483648 := (zsr_c.mp (zVr_sr V)).1.1
  have hs := (zsr_c.mp (zVr_sr V)).2
  have h00 : (-2147483648 : Int) ≤ 0 ∧ (0 : Int) < 2147483648 := by decide
  have e1 := z32_eq hx h00
  have e2 := z32_lt hx h00
  have e3 := z32_le h00 hx
  have e4 := z32_lt h00 hx
  have e5 := z32_le hx h00
  refine lv_if_ne F.2.1 F.2.2.1 hdg ht (fun q => ?_) (fun q => ?_)
  · exact ht1 (by revert q; first | (intro q; first | exact e1.mp q | exact e2.mp q | exact e4.mp q | exact fun z => q (e1.mpr z) | exact (by have := e3.mp q; omega) | exact (by have := e5.mp q; omega))) p e s m args below meth c H locs cells slots ls F (zVr_st V hs)
  · exact hf1 (by revert q; first | (intro q; first | exact e1.mp q | exact fun z => q (e1.mpr z) | exact fun z => q (e2.mpr z) | exact fun z => q (e4.mpr z) | exact (Decidable.byContradiction fun z => q (fun w => z (e1.mp w))) | exact (Decidable.byContradiction fun z => q (e3.mpr (by omega))) | exact (Decidable.byContradiction fun z => q (e5.mpr (by omega))))) p e s m args below meth c H locs cells slots ls F (zVr_st V hs)
theorem zo_icmp_lt {x y off : Int} {tgt : Nat} (F : zFx b D cA cN k n0 Q p s m args meth c) (V : zVr b D cA cN k n0 L ((0, y) :: (0, x) :: r) n M s H locs cells slots ls) (hdg : decode (zb k) pc = .ok (.if_icmp .lt off, 3)) (ht : (pc : Int) + off = (tgt : Int)) (ht1 : x < y → zP l b D cA cN k n0 Q (tgt) L (r) n M) (hf1 : ¬ x < y → zP l b D cA cN k n0 Q (pc + 3) L (r) n M) : zGo l b D cA cN k Q p e s m args below meth c H locs cells slots (F0 m pc ls (((0, y) :: (0, x) :: r).map (zv b))) := by
  have hy : -2147483648 ≤ y ∧ y < 2147483648 := (zsr_c.mp (zVr_sr V)).1.1
  have hx : -2147483648 ≤ x ∧ x < 2147483648 := (zsr_c.mp (zsr_c.mp (zVr_sr V)).2).1.1
  have hs := (zsr_c.mp (zsr_c.mp (zVr_sr V)).2).2
  have e1 := z32_eq hx hy
  have e2 := z32_lt hx hy
  have e3 := z32_le hy hx
  have e4 := z32_lt hy hx
  have e5 := z32_le hx hy
  refine lv_icmp_lt F.2.1 F.2.2.1 hdg ht (fun q => ?_) (fun q => ?_)
  · exact ht1 (by revert q; first | (intro q; first | exact e1.mp q | exact e2.mp q | exact e4.mp q | exact fun z => q (e1.mpr z) | exact (by have := e3.mp q; omega) | exact (by have := e5.mp q; omega))) p e s m args below meth c H locs cells slots ls F (zVr_st V hs)
  · exact hf1 (by revert q; first | (intro q; first | exact e1.mp q | exact fun z => q (e1.mpr z) | exact fun z => q (e2.mpr z) | exact fun z => q (e4.mpr z) | exact (Decidable.byContradiction fun z => q (fun w => z (e1.mp w))) | exact (Decidable.byContradiction fun z => q (e3.mpr (by omega))) | exact (Decidable.byContradiction fun z => q (e5.mpr (by omega))))) p e s m args below meth c H locs cells slots ls F (zVr_st V hs)
theorem zo_if_lt {x off : Int} {tgt : Nat} (F : zFx b D cA cN k n0 Q p s m args meth c) (V : zVr b D cA cN k n0 L ((0, x) :: r) n M s H locs cells slots ls) (hdg : decode (zb k) pc = .ok (.ifCond .lt off, 3)) (ht : (pc : Int) + off = (tgt : Int)) (ht1 : x < 0 → zP l b D cA cN k n0 Q (tgt) L (r) n M) (hf1 : ¬ x < 0 → zP l b D cA cN k n0 Q (pc + 3) L (r) n M) : zGo l b D cA cN k Q p e s m args below meth c H locs cells slots (F0 m pc ls (((0, x) :: r).map (zv b))) := by
  have hx : -2147483648 ≤ x ∧ x < 2147483648 := (zsr_c.mp (zVr_sr V)).1.1
  have hs := (zsr_c.mp (zVr_sr V)).2
  have h00 : (-2147483648 : Int) ≤ 0 ∧ (0 : Int) < 2147483648 := by decide
  have e1 := z32_eq hx h00
  have e2 := z32_lt hx h00
  have e3 := z32_le h00 hx
  have e4 := z32_lt h00 hx
  have e5 := z32_le hx h00
  refine lv_if_lt F.2.1 F.2.2.1 hdg ht (fun q => ?_) (fun q => ?_)
  · exact ht1 (by revert q; first | (intro q; first | exact e1.mp q | exact e2.mp q | exact e4.mp q | exact fun z => q (e1.mpr z) | exact (by have := e3.mp q; omega) | exact (by have := e5.mp q; omega))) p e s m args below meth c H locs cells slots ls F (zVr_st V hs)
  · exact hf1 (by revert q; first | (intro q; first | exact e1.mp q | exact fun z => q (e1.mpr z) | exact fun z => q (e2.mpr z) | exact fun z => q (e4.mpr z) | exact (Decidable.byContradiction fun z => q (fun w => z (e1.mp w))) | exact (Decidable.byContradiction fun z => q (e3.mpr (by omega))) | exact (Decidable.byContradiction fun z => q (e5.mpr (by omega))))) p e s m args below meth c H locs cells slots ls F (zVr_st V hs)
theorem zo_icmp_ge {x y off : Int} {tgt : Nat} (F : zFx b D cA cN k n0 Q p s m args meth c) (V : zVr b D cA cN k n0 L ((0, y) :: (0, x) :: r) n M s H locs cells slots ls) (hdg : decode (zb k) pc = .ok (.if_icmp .ge off, 3)) (ht : (pc : Int) + off = (tgt : Int)) (ht1 : ¬ x < y → zP l b D cA cN k n0 Q (tgt) L (r) n M) (hf1 : x < y → zP l b D cA cN k n0 Q (pc + 3) L (r) n M) : zGo l b D cA cN k Q p e s m args below meth c H locs cells slots (F0 m pc ls (((0, y) :: (0, x) :: r).map (zv b))) := by
  have hy : -2147483648 ≤ y ∧ y < 2147483648 := (zsr_c.mp (zVr_sr V)).1.1
  have hx : -2147483648 ≤ x ∧ x < 2147483648 := (zsr_c.mp (zsr_c.mp (zVr_sr V)).2).1.1
  have hs := (zsr_c.mp (zsr_c.mp (zVr_sr V)).2).2
  have e1 := z32_eq hx hy
  have e2 := z32_lt hx hy
  have e3 := z32_le hy hx
  have e4 := z32_lt hy hx
  have e5 := z32_le hx hy
  refine lv_icmp_ge F.2.1 F.2.2.1 hdg ht (fun q => ?_) (fun q => ?_)
  · exact ht1 (by revert q; first | (intro q; first | exact e1.mp q | exact e2.mp q | exact e4.mp q | exact fun z => q (e1.mpr z) | exact (by have := e3.mp q; omega) | exact (by have := e5.mp q; omega))) p e s m args below meth c H locs cells slots ls F (zVr_st V hs)
  · exact hf1 (by revert q; first | (intro q; first | exact e1.mp q | exact fun z => q (e1.mpr z) | exact fun z => q (e2.mpr z) | exact fun z => q (e4.mpr z) | exact (Decidable.byContradiction fun z => q (fun w => z (e1.mp w))) | exact (Decidable.byContradiction fun z => q (e3.mpr (by omega))) | exact (Decidable.byContradiction fun z => q (e5.mpr (by omega))))) p e s m args below meth c H locs cells slots ls F (zVr_st V hs)
theorem zo_if_ge {x off : Int} {tgt : Nat} (F : zFx b D cA cN k n0 Q p s m args meth c) (V : zVr b D cA cN k n0 L ((0, x) :: r) n M s H locs cells slots ls) (hdg : decode (zb k) pc = .ok (.ifCond .ge off, 3)) (ht : (pc : Int) + off = (tgt : Int)) (ht1 : ¬ x < 0 → zP l b D cA cN k n0 Q (tgt) L (r) n M) (hf1 : x < 0 → zP l b D cA cN k n0 Q (pc + 3) L (r) n M) : zGo l b D cA cN k Q p e s m args below meth c H locs cells slots (F0 m pc ls (((0, x) :: r).map (zv b))) := by
  have hx : -2147483648 ≤ x ∧ x < 2147483648 := (zsr_c.mp (zVr_sr V)).1.1
  have hs := (zsr_c.mp (zVr_sr V)).2
  have h00 : (-2147483648 : Int) ≤ 0 ∧ (0 : Int) < 2147483648 := by decide
  have e1 := z32_eq hx h00
  have e2 := z32_lt hx h00
  have e3 := z32_le h00 hx
  have e4 := z32_lt h00 hx
  have e5 := z32_le hx h00
  refine lv_if_ge F.2.1 F.2.2.1 hdg ht (fun q => ?_) (fun q => ?_)
  · exact ht1 (by revert q; first | (intro q; first | exact e1.mp q | exact e2.mp q | exact e4.mp q | exact fun z => q (e1.mpr z) | exact (by have := e3.mp q; omega) | exact (by have := e5.mp q; omega))) p e s m args below meth c H locs cells slots ls F (zVr_st V hs)
  · exact hf1 (by revert q; first | (intro q; first | exact e1.mp q | exact fun z => q (e1.mpr z) | exact fun z => q (e2.mpr z) | exact fun z => q (e4.mpr z) | exact (Decidable.byContradiction fun z => q (fun w => z (e1.mp w))) | exact (Decidable.byContradiction fun z => q (e3.mpr (by omega))) | exact (Decidable.byContradiction fun z => q (e5.mpr (by omega))))) p e s m args below meth c H locs cells slots ls F (zVr_st V hs)
theorem zo_icmp_gt {x y off : Int} {tgt : Nat} (F : zFx b D cA cN k n0 Q p s m args meth c) (V : zVr b D cA cN k n0 L ((0, y) :: (0, x) :: r) n M s H locs cells slots ls) (hdg : decode (zb k) pc = .ok (.if_icmp .gt off, 3)) (ht : (pc : Int) + off = (tgt : Int)) (ht1 : y < x → zP l b D cA cN k n0 Q (tgt) L (r) n M) (hf1 : ¬ y < x → zP l b D cA cN k n0 Q (pc + 3) L (r) n M) : zGo l b D cA cN k Q p e s m args below meth c H locs cells slots (F0 m pc ls (((0, y) :: (0, x) :: r).map (zv b))) := by
  have hy : -2147483648 ≤ y ∧ y < 2147483648 := (zsr_c.mp (zVr_sr V)).1.1
  have hx : -2147483648 ≤ x ∧ x < 2147483648 := (zsr_c.mp (zsr_c.mp (zVr_sr V)).2).1.1
  have hs := (zsr_c.mp (zsr_c.mp (zVr_sr V)).2).2
  have e1 := z32_eq hx hy
  have e2 := z32_lt hx hy
  have e3 := z32_le hy hx
  have e4 := z32_lt hy hx
  have e5 := z32_le hx hy
  refine lv_icmp_gt F.2.1 F.2.2.1 hdg ht (fun q => ?_) (fun q => ?_)
  · exact ht1 (by revert q; first | (intro q; first | exact e1.mp q | exact e2.mp q | exact e4.mp q | exact fun z => q (e1.mpr z) | exact (by have := e3.mp q; omega) | exact (by have := e5.mp q; omega))) p e s m args below meth c H locs cells slots ls F (zVr_st V hs)
  · exact hf1 (by revert q; first | (intro q; first | exact e1.mp q | exact fun z => q (e1.mpr z) | exact fun z => q (e2.mpr z) | exact fun z => q (e4.mpr z) | exact (Decidable.byContradiction fun z => q (fun w => z (e1.mp w))) | exact (Decidable.byContradiction fun z => q (e3.mpr (by omega))) | exact (Decidable.byContradiction fun z => q (e5.mpr (by omega))))) p e s m args below meth c H locs cells slots ls F (zVr_st V hs)
theorem zo_if_gt {x off : Int} {tgt : Nat} (F : zFx b D cA cN k n0 Q p s m args meth c) (V : zVr b D cA cN k n0 L ((0, x) :: r) n M s H locs cells slots ls) (hdg : decode (zb k) pc = .ok (.ifCond .gt off, 3)) (ht : (pc : Int) + off = (tgt : Int)) (ht1 : 0 < x → zP l b D cA cN k n0 Q (tgt) L (r) n M) (hf1 : ¬ 0 < x → zP l b D cA cN k n0 Q (pc + 3) L (r) n M) : zGo l b D cA cN k Q p e s m args below meth c H locs cells slots (F0 m pc ls (((0, x) :: r).map (zv b))) := by
  have hx : -2147483648 ≤ x ∧ x < 2147483648 := (zsr_c.mp (zVr_sr V)).1.1
  have hs := (zsr_c.mp (zVr_sr V)).2
  have h00 : (-2147483648 : Int) ≤ 0 ∧ (0 : Int) < 2147483648 := by decide
  have e1 := z32_eq hx h00
  have e2 := z32_lt hx h00
  have e3 := z32_le h00 hx
  have e4 := z32_lt h00 hx
  have e5 := z32_le hx h00
  refine lv_if_gt F.2.1 F.2.2.1 hdg ht (fun q => ?_) (fun q => ?_)
  · exact ht1 (by revert q; first | (intro q; first | exact e1.mp q | exact e2.mp q | exact e4.mp q | exact fun z => q (e1.mpr z) | exact (by have := e3.mp q; omega) | exact (by have := e5.mp q; omega))) p e s m args below meth c H locs cells slots ls F (zVr_st V hs)
  · exact hf1 (by revert q; first | (intro q; first | exact e1.mp q | exact fun z => q (e1.mpr z) | exact fun z => q (e2.mpr z) | exact fun z => q (e4.mpr z) | exact (Decidable.byContradiction fun z => q (fun w => z (e1.mp w))) | exact (Decidable.byContradiction fun z => q (e3.mpr (by omega))) | exact (Decidable.byContradiction fun z => q (e5.mpr (by omega))))) p e s m args below meth c H locs cells slots ls F (zVr_st V hs)
theorem zo_icmp_le {x y off : Int} {tgt : Nat} (F : zFx b D cA cN k n0 Q p s m args meth c) (V : zVr b D cA cN k n0 L ((0, y) :: (0, x) :: r) n M s H locs cells slots ls) (hdg : decode (zb k) pc = .ok (.if_icmp .le off, 3)) (ht : (pc : Int) + off = (tgt : Int)) (ht1 : ¬ y < x → zP l b D cA cN k n0 Q (tgt) L (r) n M) (hf1 : y < x → zP l b D cA cN k n0 Q (pc + 3) L (r) n M) : zGo l b D cA cN k Q p e s m args below meth c H locs cells slots (F0 m pc ls (((0, y) :: (0, x) :: r).map (zv b))) := by
  have hy : -2147483648 ≤ y ∧ y < 2147483648 := (zsr_c.mp (zVr_sr V)).1.1
  have hx : -2147483648 ≤ x ∧ x < 2147483648 := (zsr_c.mp (zsr_c.mp (zVr_sr V)).2).1.1
  have hs := (zsr_c.mp (zsr_c.mp (zVr_sr V)).2).2
  have e1 := z32_eq hx hy
  have e2 := z32_lt hx hy
  have e3 := z32_le hy hx
  have e4 := z32_lt hy hx
  have e5 := z32_le hx hy
  refine lv_icmp_le F.2.1 F.2.2.1 hdg ht (fun q => ?_) (fun q => ?_)
  · exact ht1 (by revert q; first | (intro q; first | exact e1.mp q | exact e2.mp q | exact e4.mp q | exact fun z => q (e1.mpr z) | exact (by have := e3.mp q; omega) | exact (by have := e5.mp q; omega))) p e s m args below meth c H locs cells slots ls F (zVr_st V hs)
  · exact hf1 (by revert q; first | (intro q; first | exact e1.mp q | exact fun z => q (e1.mpr z) | exact fun z => q (e2.mpr z) | exact fun z => q (e4.mpr z) | exact (Decidable.byContradiction fun z => q (fun w => z (e1.mp w))) | exact (Decidable.byContradiction fun z => q (e3.mpr (by omega))) | exact (Decidable.byContradiction fun z => q (e5.mpr (by omega))))) p e s m args below meth c H locs cells slots ls F (zVr_st V hs)
theorem zo_if_le {x off : Int} {tgt : Nat} (F : zFx b D cA cN k n0 Q p s m args meth c) (V : zVr b D cA cN k n0 L ((0, x) :: r) n M s H locs cells slots ls) (hdg : decode (zb k) pc = .ok (.ifCond .le off, 3)) (ht : (pc : Int) + off = (tgt : Int)) (ht1 : ¬ 0 < x → zP l b D cA cN k n0 Q (tgt) L (r) n M) (hf1 : 0 < x → zP l b D cA cN k n0 Q (pc + 3) L (r) n M) : zGo l b D cA cN k Q p e s m args below meth c H locs cells slots (F0 m pc ls (((0, x) :: r).map (zv b))) := by
  have hx : -2147483648 ≤ x ∧ x < 2147483648 := (zsr_c.mp (zVr_sr V)).1.1
  have hs := (zsr_c.mp (zVr_sr V)).2
  have h00 : (-2147483648 : Int) ≤ 0 ∧ (0 : Int) < 2147483648 := by decide
  have e1 := z32_eq hx h00
  have e2 := z32_lt hx h00
  have e3 := z32_le h00 hx
  have e4 := z32_lt h00 hx
  have e5 := z32_le hx h00
  refine lv_if_le F.2.1 F.2.2.1 hdg ht (fun q => ?_) (fun q => ?_)
  · exact ht1 (by revert q; first | (intro q; first | exact e1.mp q | exact e2.mp q | exact e4.mp q | exact fun z => q (e1.mpr z) | exact (by have := e3.mp q; omega) | exact (by have := e5.mp q; omega))) p e s m args below meth c H locs cells slots ls F (zVr_st V hs)
  · exact hf1 (by revert q; first | (intro q; first | exact e1.mp q | exact fun z => q (e1.mpr z) | exact fun z => q (e2.mpr z) | exact fun z => q (e4.mpr z) | exact (Decidable.byContradiction fun z => q (fun w => z (e1.mp w))) | exact (Decidable.byContradiction fun z => q (e3.mpr (by omega))) | exact (Decidable.byContradiction fun z => q (e5.mpr (by omega))))) p e s m args below meth c H locs cells slots ls F (zVr_st V hs)
theorem zo_ifnull {x off : Int} {tgt : Nat} (F : zFx b D cA cN k n0 Q p s m args meth c) (V : zVr b D cA cN k n0 L ((2, x) :: r) n M s H locs cells slots ls) (hdg : decode (zb k) pc = .ok (.ifnull off, 3)) (ht : (pc : Int) + off = (tgt : Int)) (ht1 : x ≤ 0 → zP l b D cA cN k n0 Q (tgt) L (r) n M) (hf1 : ¬ x ≤ 0 → zP l b D cA cN k n0 Q (pc + 3) L (r) n M) : zGo l b D cA cN k Q p e s m args below meth c H locs cells slots (F0 m pc ls (((2, x) :: r).map (zv b))) := by
  have hs := (zsr_c.mp (zVr_sr V)).2
  by_cases q : x ≤ 0
  · have e1 : zv b (2, x) = .null := by show (if x ≤ 0 then Value.null else Value.ref (b + x.toNat)) = _; rw [if_pos q]
    rw [List.map_cons, e1]
    exact lv_ifnullN F.2.1 F.2.2.1 hdg ht (ht1 q p e s m args below meth c H locs cells slots ls F (zVr_st V hs))
  · have e1 : zv b (2, x) = .ref (b + x.toNat) := by show (if x ≤ 0 then Value.null else Value.ref (b + x.toNat)) = _; rw [if_neg q]
    rw [List.map_cons, e1]
    exact lv_ifnull F.2.1 F.2.2.1 hdg (hf1 q p e s m args below meth c H locs cells slots ls F (zVr_st V hs))
theorem zo_goto {off : Int} {tgt : Nat} (F : zFx b D cA cN k n0 Q p s m args meth c) (V : zVr b D cA cN k n0 L (st) n M s H locs cells slots ls) (hdg : decode (zb k) pc = .ok (.goto off, 3)) (ht : (pc : Int) + off = (tgt : Int)) (h : zP l b D cA cN k n0 Q (tgt) (L) (st) (n) (M)) : zGo l b D cA cN k Q p e s m args below meth c H locs cells slots (F0 m pc ls ((st).map (zv b))) := by
  exact lv_goto F.2.1 F.2.2.1 hdg ht (h p e s m args below meth c H locs cells slots ls F V)
end ZR
