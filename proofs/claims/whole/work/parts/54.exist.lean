/-! what a run of the machine ends with exists; so every shape has its flows -/
theorem zsw_ex {E : Prop} (x : Int) : ∀ (ts : List Nat) (lo : Int) (d : Nat), zsw (fun _ => E) x lo ts d → E
  | [], _, _, h => h
  | _ :: ts, lo, d, h => (Classical.em (x = lo)).elim h.1 (fun q => zsw_ex x ts (lo + 1) d (h.2 q))
theorem zem {p E : Prop} (h : (p → E) ∧ (¬ p → E)) : E := (Classical.em p).elim h.1 h.2
theorem zem' {p E : Prop} (h : (¬ p → E) ∧ (p → E)) : E := (Classical.em p).elim h.2 h.1
set_option maxHeartbeats 4000000 in
theorem zwI_ex {k : Nat} {n0 : Int} {Q : zQ} {E : Prop} (hQ : ∀ r n M, Q r n M → E) {i : zI} {L st : List zV} {n : Int} {M : zM} : zwI k n0 (fun _ _ _ _ _ => E) (fun _ Q' _ _ _ => ∃ r n' M', Q' r n' M') Q i L st n M → E := by
  unfold zwI
  split
  · split <;> first | exact False.elim | exact zem
  · exact id
  · unfold zcall
    split
    · rintro ⟨_, r, n', M', h⟩; exact h.2
    · exact False.elim
  · split <;> first | exact False.elim | exact hQ _ _ _
  · split <;> first | exact False.elim | exact fun q => hQ _ _ _ q.2
  · split <;> first | exact False.elim | exact hQ _ _ _
  · split <;> first | exact False.elim | exact hQ _ _ _
  · split <;> first | exact False.elim | exact zsw_ex _ _ _ _
  · split <;> first | exact False.elim | exact zem | exact zem'
  · split <;> first | exact False.elim | exact zem | exact zem'
  · split <;> first | exact False.elim | exact zem | exact zem'
  · split <;> first | exact False.elim | exact zem | exact zem'
  · split <;> first | exact False.elim | exact zem | exact zem'
  · split <;> first | exact False.elim | exact zem | exact zem'
  · split <;> first | exact False.elim | exact zem | exact zem'
  · split <;> first | exact False.elim | exact zem | exact zem'
  · split <;> first | exact False.elim | exact zem | exact zem'
  · split <;> first | exact False.elim | exact zem | exact zem'
  · split <;> first | exact False.elim | exact zem | exact zem'
  · split <;> first | exact False.elim | exact zem | exact zem'
  · split <;> first | exact False.elim | exact fun q => q.2
theorem zG_ex {k : Nat} {n0 : Int} {Q : zQ} {pc : Nat} {L st : List zV} {n : Int} {M : zM} (h : zG k n0 Q pc L st n M) : ∃ r n' M', Q r n' M' := by
  refine h (fun _ _ Q _ _ _ _ _ => ∃ r n' M', Q r n' M') ?_ ?_ ?_
  · rintro k n0 Q Q' pc L st n M hq ⟨r, n', M', q⟩
    exact ⟨r, n', M', hq _ _ _ q⟩
  · intro k n0 Q pc L st n M q
    exact zwI_ex (E := ∃ r n' M', Q r n' M') (fun r n M z => ⟨r, n, M, z⟩) q
  · intro k n0 Q pc L L' st n M _ q
    exact q
theorem zF_ex {k : Nat} {Q : Int → zM → Prop} {As : List zV} {M : zM} (hL : zLay M) (h : zF k Q As M) : ∃ r M', Q r M' := by
  obtain ⟨r, n', M', _, _, q⟩ := zG_ex (h hL 0)
  exact ⟨r, M', q⟩
theorem zS_lay {k : Nat} {Q : Int → zM → Prop} {pc : Nat} {L st : List zV} {M : zM} (h : zLay M → zS k Q pc L st M) : zS k Q pc L st M := fun hL n => h hL hL n
theorem zF_lay {k : Nat} {Q : Int → zM → Prop} {As : List zV} {M : zM} (h : zLay M → zF k Q As M) : zF k Q As M := zS_lay h
/-- every shape has its flows -/
def pXX (N : zM) : Prop := ∀ S, (∀ l, tbs S l → l < N 4 2) → ∃ fl ne, pX N S fl ne
theorem pXX_of {M : zM} (hL : zLay M) (hW : zWC M) : pXX (pnet M) := fun S hS => by
  rw [pnet_42] at hS
  have h := zF_ex hL (c1 (Q := fun _ _ => ∃ fl ne, pX (pnet M) S fl ne) (f := 12) (M := M) (sh := S) rfl hW hS (fun M' h1 h2 h3 => by
    have hX := zFO_X h3
    have hr : ∀ a, 4 ≤ a → a ≤ 11 → M' a = M a := fun a p q => zFf_row h1 (by omega)
    rw [h2, pnet_cg hr] at hX
    exact ⟨_, _, hX⟩))
  obtain ⟨_, _, q⟩ := h
  exact q
