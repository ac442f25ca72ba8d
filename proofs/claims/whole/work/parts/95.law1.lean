/-! what the classes are at the law's start; its links -/
theorem zNW_in : ∀ w ∈ zNW, w ∈ lw_tbl := by
  intro w hw
  have h := zNW_a
  have hl : zNW.length = 14 := by decide +kernel
  obtain ⟨i, hi⟩ := List.getElem?_of_mem hw
  have hlt : i < 14 := by rw [← hl]; exact (List.getElem?_eq_some_iff.mp hi).1
  have hz : (zNW.zip [25, 105, 193, 225, 253, 280, 322, 182, 198, 327, 285, 287, 708, 258])[i]? = some (w, [25, 105, 193, 225, 253, 280, 322, 182, 198, 327, 285, 287, 708, 258][i]) := by
    rw [List.getElem?_zip_eq_some]
    exact ⟨hi, List.getElem?_eq_getElem _⟩
  have := List.all_eq_true.mp h _ (List.mem_of_getElem? hz)
  exact List.mem_append_right _ (List.mem_of_getElem? (of_decide_eq_true this))
theorem zNW_tb : ∀ w ∈ zNW, w.onTables = true := by
  intro w hw
  obtain ⟨a, i, x, h, rfl⟩ := zNW_nest w hw
  rfl
theorem zAO_in : Cond.arrayOver (.object "TieOffice$Net") ∈ lw_tbl := by decide +kernel
theorem zKs_start {s : State} {b : Nat} (hts : ∀ w ∈ lw_tbl, w.before #[Value.ref b] s = true) : ∃ (D : va_G) (cA cN : ClassId), zKs D cA cN s := by
  have hcl : ∀ c, ∃ (cC : ClassId) (iS : Nat → Nat), c < 10 → u_Kn s (zcnm c) (zTT c) (znf c) cC iS := by
    intro c
    by_cases hc : c < 10
    · obtain ⟨cC, iS, h⟩ := u_known (C := zcnm c) (T := zTT c) (N := znf c) (n := znf c) hts (fun w hw => zwl_tb (zlay_in c hc w hw)) (hts _ (zwl_tb (zinst_in c hc)))
      exact ⟨cC, iS, fun _ => h⟩
    · exact ⟨0, fun _ => 0, fun h => absurd h hc⟩
  obtain ⟨cA, kA, compA, a1, a2, a3⟩ := Cond.arrayClass_spec (hts _ (zwl_tb zmi_5))
  obtain ⟨comp, cN, kN, n1, n2, n3, n4, n5⟩ := Cond.arrayOver_spec (hts _ zAO_in)
  refine ⟨(fun c => Classical.choose (hcl c), fun c => Classical.choose (Classical.choose_spec (hcl c))), cA, cN, ⟨fun c q hq => ?_, fun k q hq => ?_⟩, va_AO.of (hts _ zAO_in), fun w hw => va_Nw.of (zNW_tb w hw) (hts w (zNW_in w hw))⟩
  · have hc : c < 10 := by
      have := (List.getElem?_eq_some_iff.mp hq).1
      exact this
    rw [zcls_at c hc] at hq
    cases hq
    exact Classical.choose_spec (Classical.choose_spec (hcl c)) hc
  · match k, hq with
    | 0, hq => cases hq; exact ⟨fun n z => ⟨fun k h => (by cases h), kA, a2, compA, a3⟩, a1⟩
    | 1, hq => cases hq; exact ⟨fun n z => ⟨fun k h => (by cases h), kN, n3, comp, n4⟩, kN, comp, n3, n4, n1, n5⟩
    | k + 2, hq => simp at hq
def lwL : List (Nat × Nat × Nat) := [(450, 13, 68), (458, 18, 69), (462, 23, 70), (539, 27, 71), (551, 32, 72), (561, 36, 73), (566, 40, 74), (574, 44, 75), (586, 48, 76), (590, 52, 77), (594, 56, 78), (599, 60, 79), (620, 64, 80), (636, 69, 81), (670, 73, 82), (674, 77, 83), (679, 81, 84), (711, 85, 85), (753, 89, 86), (757, 93, 87), (774, 98, 88), (782, 102, 89), (786, 106, 90), (979, 17, 100), (990, 22, 101), (994, 26, 113), (1050, 101, 116), (1054, 31, 126), (1062, 35, 127), (1070, 39, 128), (1074, 43, 129), (1082, 47, 131), (1098, 51, 133), (1106, 55, 134), (1110, 59, 136), (1118, 63, 140), (1130, 68, 142), (1150, 72, 144), (1158, 76, 145), (1162, 80, 146), (1166, 84, 151), (1187, 88, 155), (1203, 92, 156), (1207, 97, 160), (1223, 105, 162), (1231, 110, 163)]
theorem lwL_a : lwL.all (fun e => decide (tables_1[e.1]? = some (Cond.methodLink R_law e.2.1 (zy e.2.2)))) = true := by decide +kernel
theorem lwL_in : ∀ e ∈ lwL, Cond.methodLink R_law e.2.1 (zy e.2.2) ∈ lw_tbl := fun e he => List.mem_append_right _ (List.mem_of_getElem? (of_decide_eq_true (List.all_eq_true.mp lwL_a e he)))
theorem lwL_ok : ∀ e ∈ lwL, e.2.2 < 166 ∧ zsta e.2.2 = false ∧ (e.2.2 ∈ zst ∨ e.2.2 ∈ zsp) ∧ zoc e.2.2 < 10 ∧ zmc e.2.2 = 0 ∧ zms e.2.2 = 0 ∧ zfr e.2.2 + 1 ≤ 9 ∧ 8 + (zml e.2.2 + 11) + zlo e.2.2 ≤ 334 := by decide +kernel
theorem lwI_in : Cond.methodLink R_law 9 (zy 67) ∈ lw_tbl ∧ Cond.methodLink R_law 12 (zy 97) ∈ lw_tbl ∧ Cond.classLink R_law 7 (zcnm 8) ∈ lw_tbl ∧ Cond.classLink R_law 10 (zcnm 9) ∈ lw_tbl := ⟨List.mem_append_right _ (List.mem_of_getElem? (i := 17) (by decide +kernel)), List.mem_append_right _ (List.mem_of_getElem? (i := 798) (by decide +kernel)), List.mem_append_right _ (List.mem_of_getElem? (i := 15) (by decide +kernel)), List.mem_append_right _ (List.mem_of_getElem? (i := 796) (by decide +kernel))⟩
theorem lwI_ok : (zfr 67 + 1 ≤ 9 ∧ 8 + (zml 67 + 11) + zlo 67 ≤ 334) ∧ (zfr 97 + 1 ≤ 9 ∧ 8 + (zml 97 + 11) + zlo 97 ≤ 334) ∧ zmc 67 = 121 ∧ zmc 97 = 35 := by decide +kernel
