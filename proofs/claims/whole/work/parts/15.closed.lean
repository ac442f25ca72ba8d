theorem zboo_0 (c j : Nat) (h : zboo c j = true) : zft c j = 0 := by
  have key : ∀ c, c < 10 → ∀ j, j < 56 → zboo c j = true → zft c j = 0 := by decide +kernel
  rcases Nat.lt_or_ge c 10 with a | a
  · rcases Nat.lt_or_ge j 56 with q | q
    · exact key c a j q h
    · exfalso
      unfold zboo at h
      have key2 : ∀ l ∈ ([[false, true, false, false, false, false, false, false, false, false, false, false, false, false, false], [false, false, false, false, false, false, false, false, false, false, false, false], [false, false], [false, false, false, false, false, false, false], [false, false, false, false, false, false, false, true, true], [false, false, false, false, false], [false, true, false, false, false, false, false, false, false], [false, false, false, false, false], [false, false, false, false, false, false, false, false, false, false, false, false], [false, false, false, false, false, false, false, false, false, false, false, false, false, false, false, false, false, false, false, false, false, false, false, false, false, false, false, false, false, false, false, false, false, false, false, false, false, false, false, false, false, false, false, false, false, false, false, false, false, false, false, false, false, false, false, false]] : List (List Bool)), l.length ≤ 56 := by decide +kernel
      rw [List.getD_eq_getElem?_getD, List.getElem?_eq_none] at h
      · cases h
      · refine Nat.le_trans (key2 _ ?_) q
        rw [List.getD_eq_getElem?_getD, List.getElem?_eq_getElem (by simpa using a)]
        exact List.getElem_mem _
  · exfalso
    unfold zboo at h
    obtain ⟨d, rfl⟩ : ∃ d, c = d + 10 := ⟨c - 10, by omega⟩
    simp at h
theorem zP_cl (l : Launch) (b : Nat) (D : va_G) (cA cN : ClassId) : zcl (zP l b D cA cN) := by
  intro k n0 Q pc L st n M h p e s m args below meth c H locs cells slots ls F V
  rcases zc_tr (pc := pc) F.1 with q | q
  · exfalso
    generalize zc k pc = i at h q
    obtain ⟨i1, i2⟩ := i
    dsimp only at q
    subst q
    exact h
  · rw [q] at h
    clear q
    unfold ztr at h
    split at h
    · split at h <;> first | exact za_iconst F V ‹_› ‹_› h | exact (zno_F h).elim
    · split at h <;> first | exact za_bipush F V ‹_› ‹_› h | exact (zno_F h).elim
    · split at h <;> first | exact za_sipush F V ‹_› ‹_› h | exact (zno_F h).elim
    · split at h <;> first | exact za_ldc F V ‹_› ‹_› h | exact (zno_F h).elim
    · split at h <;> first | exact za_ldcw F V ‹_› ‹_› h | exact (zno_F h).elim
    · split at h <;> first | exact za_ldc2 F V ‹_› ‹_› h | exact (zno_F h).elim
    · exact za_lconst F V ‹_› h
    · exact za_iload F V ‹_› h
    · exact za_iloadn F V ‹_› h
    · exact za_lload F V ‹_› h
    · exact za_lloadn F V ‹_› h
    · exact za_aload F V ‹_› h
    · exact za_aloadn F V ‹_› h
    · exact za_istore F V ‹_› h
    · exact za_istoren F V ‹_› h
    · exact za_lstore F V ‹_› h
    · exact za_lstoren F V ‹_› h
    · exact za_astore F V ‹_› h
    · exact za_astoren F V ‹_› h
    · split at h <;> first | exact za_iinc F V ‹_› h | exact (zno_F h).elim
    · exact za_iadd F V ‹_› h
    · exact za_isub F V ‹_› h
    · exact za_imul F V ‹_› h
    · exact za_iand F V ‹_› h
    · exact za_ior F V ‹_› h
    · exact za_ixor F V ‹_› h
    · exact za_ishl F V ‹_› h
    · exact za_ishr F V ‹_› h
    · exact za_iushr F V ‹_› h
    · exact za_ladd F V ‹_› h
    · exact za_lsub F V ‹_› h
    · exact za_lmul F V ‹_› h
    · exact za_ineg F V ‹_› h
    · exact za_i2l F V ‹_› h
    · exact za_lcmp F V ‹_› h
    · exact za_dup F V ‹_› h
    · exact za_dup2 F V ‹_› h
    · exact za_pop F V ‹_› h
    · exact za_iaload F V ‹_› h
    · exact za_iastore F V ‹_› h
    · exact za_aaload F V ‹_› h
    · exact za_aastore F V ‹_› h
    · exact za_arraylength F V ‹_› h
    · rename_i off hd
      rcases zjmp_ok (op := 70) (pc := pc) (len := 3) (off := off) with z | ⟨z1, z2⟩
      · rw [z] at h; exact (zno_F h).elim
      · rw [z2] at h; exact za_icmp_eq F V hd z1 h
    · rename_i off hd
      rcases zjmp_ok (op := 80) (pc := pc) (len := 3) (off := off) with z | ⟨z1, z2⟩
      · rw [z] at h; exact (zno_F h).elim
      · rw [z2] at h; exact za_if_eq F V hd z1 h
    · rename_i off hd
      rcases zjmp_ok (op := 71) (pc := pc) (len := 3) (off := off) with z | ⟨z1, z2⟩
      · rw [z] at h; exact (zno_F h).elim
      · rw [z2] at h; exact za_icmp_ne F V hd z1 h
    · rename_i off hd
      rcases zjmp_ok (op := 81) (pc := pc) (len := 3) (off := off) with z | ⟨z1, z2⟩
      · rw [z] at h; exact (zno_F h).elim
      · rw [z2] at h; exact za_if_ne F V hd z1 h
    · rename_i off hd
      rcases zjmp_ok (op := 72) (pc := pc) (len := 3) (off := off) with z | ⟨z1, z2⟩
      · rw [z] at h; exact (zno_F h).elim
      · rw [z2] at h; exact za_icmp_lt F V hd z1 h
    · rename_i off hd
      rcases zjmp_ok (op := 82) (pc := pc) (len := 3) (off := off) with z | ⟨z1, z2⟩
      · rw [z] at h; exact (zno_F h).elim
      · rw [z2] at h; exact za_if_lt F V hd z1 h
    · rename_i off hd
      rcases zjmp_ok (op := 73) (pc := pc) (len := 3) (off := off) with z | ⟨z1, z2⟩
      · rw [z] at h; exact (zno_F h).elim
      · rw [z2] at h; exact za_icmp_ge F V hd z1 h
    · rename_i off hd
      rcases zjmp_ok (op := 83) (pc := pc) (len := 3) (off := off) with z | ⟨z1, z2⟩
      · rw [z] at h; exact (zno_F h).elim
      · rw [z2] at h; exact za_if_ge F V hd z1 h
    · rename_i off hd
      rcases zjmp_ok (op := 74) (pc := pc) (len := 3) (off := off) with z | ⟨z1, z2⟩
      · rw [z] at h; exact (zno_F h).elim
      · rw [z2] at h; exact za_icmp_gt F V hd z1 h
    · rename_i off hd
      rcases zjmp_ok (op := 84) (pc := pc) (len := 3) (off := off) with z | ⟨z1, z2⟩
      · rw [z] at h; exact (zno_F h).elim
      · rw [z2] at h; exact za_if_gt F V hd z1 h
    · rename_i off hd
      rcases zjmp_ok (op := 75) (pc := pc) (len := 3) (off := off) with z | ⟨z1, z2⟩
      · rw [z] at h; exact (zno_F h).elim
      · rw [z2] at h; exact za_icmp_le F V hd z1 h
    · rename_i off hd
      rcases zjmp_ok (op := 85) (pc := pc) (len := 3) (off := off) with z | ⟨z1, z2⟩
      · rw [z] at h; exact (zno_F h).elim
      · rw [z2] at h; exact za_if_le F V hd z1 h
    · rename_i off hd
      rcases zjmp_ok (op := 16) (pc := pc) (len := 3) (off := off) with z | ⟨z1, z2⟩
      · rw [z] at h; exact (zno_F h).elim
      · rw [z2] at h; exact za_ifnull F V hd z1 h
    · rename_i off hd
      rcases zjmp_ok (op := 17) (pc := pc) (len := 3) (off := off) with z | ⟨z1, z2⟩
      · rw [z] at h; exact (zno_F h).elim
      · rw [z2] at h; exact za_goto F V hd z1 h
    · split at h <;> first | exact za_getfield F V ‹_› ‹_› h | exact (zno_F h).elim
    · rename_i i hd
      split at h
      · rename_i ci fk hv
        split at h
        · exact (zno_F h).elim
        · rename_i hf
          have hfin : zfin ci fk = true → zini k = true ∧ ci = zoc k := by
            intro z
            rw [z] at hf
            simp only [Bool.true_and, Bool.not_eq_true', Bool.not_eq_false, Bool.and_eq_true, beq_iff_eq] at hf
            exact hf
          split at h
          · rename_i h1
            exact za_putfield24 F V hd hv hfin h1 (fun x z => absurd (zboo_0 ci fk z) (by omega)) h
          · split at h
            · rename_i h2
              exact za_putfield25 F V hd hv hfin h2 (fun x z => absurd (zboo_0 ci fk z) (by omega)) h
            · have h0 : zft ci fk = 0 := by have := zft_lt ci fk; omega
              split at h
              · exact za_putfield23 F V hd hv hfin h0 h
              · rename_i h3
                exact za_putfield22 F V hd hv hfin h0 (fun x z => absurd z h3) h
      · exact (zno_F h).elim
    · split at h <;> first | exact za_new F V ‹_› ‹_› h | exact (zno_F h).elim
    · exact za_newarray F V ‹_› h
    · split at h <;> first | exact za_anewarray F V ‹_› ‹_› h | exact (zno_F h).elim
    · rename_i i hd
      exact za_call F V (fun kd hk => Or.inl ⟨by omega, hd⟩) h
    · rename_i i hd
      split at h
      · exact za_arraycopy F V hd ‹_› h
      · split at h
        · exact za_abs F V hd ‹_› h
        · exact za_call F V (fun kd hk => Or.inr (Or.inl ⟨hk, hd⟩)) h
    · rename_i i hd
      split at h
      · exact za_objInit F V hd ‹_› h
      · exact za_call F V (fun kd hk => Or.inr (Or.inr ⟨hk, hd⟩)) h
    · rename_i hd
      split at h
      · exact za_zreturn F V hd ‹_› h
      · split at h
        · exact za_ireturn F V hd ‹_› h
        · exact (zno_F h).elim
    · split at h <;> first | exact za_lreturn F V ‹_› ‹_› h | exact (zno_F h).elim
    · split at h <;> first | exact za_return F V ‹_› ‹_› h | exact (zno_F h).elim
    · split at h <;> first | exact za_table F V ‹_› ‹_› h | exact (zno_F h).elim
    · exact (zno_F h).elim
theorem zle_len : ∀ {L L' : List zV}, zle L L' → L.length = L'.length
  | [], [], _ => rfl
  | _ :: l, _ :: m, h => by simp [zle_len (L := l) (L' := m) h.2]
  | [], _ :: _, h => h.elim
  | _ :: _, [], h => h.elim
theorem zle_nth : ∀ {L L' : List zV} {k : Nat} {v : zV}, zle L L' → znth L k = some v → v.1 ≠ 3 → znth L' k = some v
  | [], [], _, _, _, h, _ => by cases h
  | u :: l, w :: m, 0, v, hl, h, hv => by
    cases h
    rcases hl.1 with q | q
    · subst q; rfl
    · subst q; exact absurd rfl hv
  | u :: l, w :: m, k + 1, v, hl, h, hv => zle_nth (L := l) (L' := m) hl.2 h hv
  | [], _ :: _, _, _, hl, _, _ => hl.elim
  | _ :: _, [], _, _, hl, _, _ => hl.elim
theorem zle_r {n : Int} : ∀ {L L' : List zV}, zle L L' → (∀ v ∈ L', zr n v) → ∀ v ∈ L, zr n v
  | [], [], _, _ => fun _ h => by cases h
  | u :: l, w :: m, hl, h => fun v hv => by
    rcases List.mem_cons.mp hv with q | hv
    · rcases hl.1 with z | z
      · rw [q, z]; exact h w List.mem_cons_self
      · rw [q, z]; trivial
    · exact zle_r hl.2 (fun x hx => h x (List.mem_cons_of_mem _ hx)) v hv
  | [], _ :: _, h, _ => h.elim
  | _ :: _, [], h, _ => h.elim
theorem zP_fo (l : Launch) (b : Nat) (D : va_G) (cA cN : ClassId) : zfo (zP l b D cA cN) := by
  intro k n0 Q pc L L' st n M hl h p e s m args below meth c H locs cells slots ls F V
  obtain ⟨a1, a2, a3, a4, a5, a6, a7, a8, a9, a10⟩ := V
  refine h p e s m args below meth c H locs cells slots ls F ⟨a1, a2, a3, a4, a5, a6, ⟨a7.1, a7.2.1, fun q hq => ?_⟩, (zle_len hl).trans a8, zle_r hl a9, a10⟩
  obtain ⟨j, v, h1, h2, rfl⟩ := zlv_mem.mp hq
  exact a7.2.2 _ (zlv_mem.mpr ⟨j, v, zle_nth hl h1 h2, h2, rfl⟩)
/-- what the clean machine says holds of the real one -/
theorem zG_P {l : Launch} {b : Nat} {D : va_G} {cA cN : ClassId} {k : Nat} {n0 : Int} {Q : zQ} {pc : Nat} {L st : List zV} {n : Int} {M : zM} (h : zG k n0 Q pc L st n M) : zP l b D cA cN k n0 Q pc L st n M := h _ (zP_mo l b D cA cN) (zP_cl l b D cA cN) (zP_fo l b D cA cN)
/-- a contract of the real machine out of one of the clean one -/
theorem zC_Met {l : Launch} {b : Nat} {D : va_G} {cA cN : ClassId} {k : Nat} {Q : zQ} {As : List zV} {n : Int} {M : zM} (hk : k < 166) (h : zC k Q As n M) (hlen : (zspr As).length ≤ zml k) (hr : zsr n As) (hQ : ∀ r n' M', Q r n' M' → zal k n n') (hn : 0 ≤ n) :
    Met l (zy k) (zwd k) (zrm k) (zPc b D cA cN As n M) (zQc b D cA cN k Q) (zmc k) (zms k) (fun q => b + 1 ≤ q) := zMet hk (zG_P h) hlen hr hQ hn
